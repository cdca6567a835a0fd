import java.util.ArrayList;
import java.util.Arrays;
import java.util.Comparator;
import java.util.HashSet;
import java.util.List;
import java.util.Set;
import java.util.function.Predicate;
import java.util.function.ToLongFunction;

/** The document again, in the slowest and plainest way and with all of the Java library; calls bear the face's names. */
final class Model {
    record Person(long name, int trade, int home) { }
    record Holding(int person, int plot, int worth, int from, int to, int known) { }
    record Split(int plot, int day, int known) { }
    record Payment(int person, int sum, int day, boolean proved, int known) { }
    record Entry(long name, int trade, int minute, int set) { }
    record Offer(int person, int set, int minute) { }
    record Ground(boolean on, int which) { }
    record Member(int lean, int kin) { }
    record Comer(int person, int place, int day, int minute) { }
    record Rule(String label, String strikes, String verb, Predicate<Comer> test, int a, int b) { }
    record Text(int day, int places, List<Rule> rules) { }
    record Token(String text, int place) { }

    private static final class Refused extends RuntimeException {
        private static final long serialVersionUID = 1;
        final int status;

        Refused(int status) {
            this.status = status;
        }
    }

    private static final class Faulty extends RuntimeException {
        private static final long serialVersionUID = 1;
        final int kind;
        final int place;

        Faulty(int kind, int place) {
            this.kind = kind;
            this.place = place;
        }
    }

    private static final Set<String> BOOLEANS = Set.of("tray", "write", "pour", "hold", "split", "pay", "asof", "reach",
        "against", "kin", "miles");

    private int status;
    private final long[][] trays = new long[4][];
    private final int[] sorts = new int[4];
    private final List<Person> persons = new ArrayList<>();
    private final List<Holding> holdings = new ArrayList<>();
    private final List<Split> splits = new ArrayList<>();
    private final List<Payment> payments = new ArrayList<>();
    private int lastKnown;
    private int asOf = 9999;
    private final List<Integer> tape = new ArrayList<>();
    private final List<Text> texts = new ArrayList<>();
    private int fault = -1;
    private int faultPlace = -1;
    private final List<List<Entry>> books = List.of(new ArrayList<>(), new ArrayList<>(), new ArrayList<>());
    private int reach = 6;
    private final List<Offer> offers = new ArrayList<>();
    private final List<Ground> grounds = new ArrayList<>();
    private final Set<Integer> against = new HashSet<>();
    private final List<Member> members = new ArrayList<>();
    private final int[] kins = new int[4];
    private List<Integer> bench = new ArrayList<>();
    private final int[][] miles = new int[7][7];
    private int coachMany = -1;

    Model() {
        for (int[] row : miles) {
            Arrays.fill(row, 10);
        }
    }

    int status() {
        return status;
    }

    /** A call by its name, booleans as 1 and 0. */
    long call(String name, long... a) {
        int[] i = Arrays.stream(a).mapToInt(v -> (int) v).toArray();
        if (name.equals("feed")) {
            return feed(i);
        }
        if (name.equals("fault")) {
            return i[0] == 0 ? fault : i[0] == 1 ? faultPlace : -1;
        }
        try {
            status = 0;
            return answer(name, a, i);
        } catch (Refused e) {
            status = e.status;
            return BOOLEANS.contains(name) ? 0 : -1;
        }
    }

    private long answer(String name, long[] a, int[] i) {
        switch (name) {
            case "tray": return tray(i[0], i[1], i[2]);
            case "write": return write(i[0], i[1], a[2]);
            case "read": return read(i[0], i[1]);
            case "pour": return pour(i[0], i[1], i[2], i[3], i[4]);
            case "far": return far(letters(a[0]), letters(a[1]));
            case "person": return person(a[0], i[1], i[2]);
            case "hold": return hold(i);
            case "split": return split(i);
            case "pay": return pay(i);
            case "asof": range(i[0], 0, 9999); asOf = i[0]; return 1;
            case "fact": return fact(i[0], i[1], i[2], i[3]);
            case "text": return text(i[0], i[1], i[2]);
            case "rules": placeDay(i[0], i[1]); return rules(i[0], i[1]).size();
            case "struck": return struck(i);
            case "right": return right(comer(i));
            case "why": return why(comer(i));
            case "voided": return first(comer(i), "void") >= 0 ? 1 : 0;
            case "names": placeDay(i[0], i[1]); return names(i[0], i[1]);
            case "entry": return entry(i[0], a[1], i[2], i[3], i[4]);
            case "join": range(i[0], 1, 2); return best(i[0]).get(0);
            case "mate": range(i[0], 1, 2); entryOf(i[1]); return mate(i[0], i[1]);
            case "joined": entryOf(i[0]); return joined(i[0]);
            case "tally": return tally(i[0], i[1]);
            case "reach": range(i[0], 0, 30); reach = i[0]; return 1;
            case "who": entryOf(i[0]); return need(who(i[0]));
            case "sure": return sure(i[0], i[1]);
            case "offer": return offer(i[0], i[1], i[2]);
            case "standing": entryOf(i[0]); placeDay(i[1], i[2]); return standing(i[0], i[1], i[2]);
            case "stands": range(i[0], 0, offers.size() - 1); placeDay(i[1], i[2]); return stands(i[0], i[1], i[2]);
            case "poll": range(i[0], 0, 3); placeDay(i[1], i[2]); return polls(i[1], i[2], i[3] != 0)[i[0]];
            case "seated": range(i[0], 0, 1); placeDay(i[1], i[2]); return seats(polls(i[1], i[2], i[3] != 0)).get(i[0]);
            case "ground": return ground(i[0] != 0, i[1]);
            case "against": return against(i[0], i[1]);
            case "written": range(i[0], 0, 3); range(i[1], 0, (1 << grounds.size()) - 1); return written(i[1])[i[0]];
            case "turns": return turns(i[0], i[1]);
            case "member": return member(i[0], i[1]);
            case "kin": range(i[0], 0, 3); range(i[1], 0, 20); kins[i[0]] = i[1]; return 1;
            case "draw": return draw(i[0], i[1], i[2]);
            case "bench": range(i[0], 0, Integer.MAX_VALUE); return i[0] < bench.size() ? bench.get(i[0]) : need(-1);
            case "miles": return miles(i[0], i[1], i[2]);
            case "coaches": return coaches(i[0], i[1], i[2]);
            case "coachMany": return need(coachMany);
            default: throw new IllegalArgumentException(name);
        }
    }

    private static void range(long v, long least, long most) {
        if (v < least || v > most) {
            throw new Refused(1);
        }
    }

    private static void that(boolean holds, int status) {
        if (!holds) {
            throw new Refused(status);
        }
    }

    private static int need(int found) {
        that(found != -1, 6);
        return found;
    }

    private static void placeDay(int place, int day) {
        range(place, 0, 6);
        range(day, 0, 9999);
    }

    private void personOf(int person) {
        range(person, 0, persons.size() - 1);
    }

    private void entryOf(int entry) {
        range(entry, 0, books.get(0).size() - 1);
    }

    private Comer comer(int[] i) {
        personOf(i[0]);
        placeDay(i[1], i[2]);
        range(i[3], 0, 1439);
        return new Comer(i[0], i[1], i[2], i[3]);
    }

    // ---- trays

    private int tray(int tray, int sort, int many) {
        range(tray, 0, 3);
        range(sort, 0, 3);
        range(many, 0, 60);
        trays[tray] = new long[many];
        sorts[tray] = sort;
        return 1;
    }

    private int write(int tray, int place, long v) {
        read(tray, place);
        int[] shifts = {56, 48, 32, 0};
        trays[tray][place] = v << shifts[sorts[tray]] >> shifts[sorts[tray]];
        return 1;
    }

    private long read(int tray, int place) {
        range(tray, 0, 3);
        that(trays[tray] != null, 2);
        that(place >= 0 && place < trays[tray].length, 3);
        return trays[tray][place];
    }

    private int pour(int from, int place, int to, int at, int many) {
        range(from, 0, 3);
        range(to, 0, 3);
        that(place >= 0 && at >= 0 && many >= 0, 1);
        that(trays[from] != null && trays[to] != null, 2);
        that(sorts[from] == sorts[to], 8);
        that((long) place + many <= trays[from].length && (long) at + many <= trays[to].length, 3);
        long[] as = Arrays.copyOfRange(trays[from], place, place + many);
        for (int i = 0; i < many; i++) {
            trays[to][at + i] = as[i];
        }
        return 1;
    }

    // ---- persons

    private static String letters(long name) {
        StringBuilder b = new StringBuilder();
        that(name > 0 && name < 1L << 40, 1);
        for (long rest = name; rest > 0; rest /= 32) {
            range(rest % 32, 1, 26);
            b.insert(0, (char) ('a' + rest % 32 - 1));
        }
        return b.toString();
    }

    private static int far(String a, String b) {
        int[][] d = new int[a.length() + 1][b.length() + 1];
        for (int i = 0; i <= a.length(); i++) {
            for (int j = 0; j <= b.length(); j++) {
                if (i == 0 || j == 0) {
                    d[i][j] = i + j;
                } else {
                    int swap = d[i - 1][j - 1] + (a.charAt(i - 1) == b.charAt(j - 1) ? 0 : 1);
                    d[i][j] = Math.min(swap, 1 + Math.min(d[i - 1][j], d[i][j - 1]));
                }
            }
        }
        return d[a.length()][b.length()];
    }

    private int person(long name, int trade, int home) {
        letters(name);
        range(trade, 0, 19);
        range(home, 0, 6);
        that(persons.size() < 40, 4);
        persons.add(new Person(name, trade, home));
        return persons.size() - 1;
    }

    private void known(boolean room, int known) {
        range(known, 0, 9999);
        that(room, 4);
        that(known >= lastKnown, 5);
        lastKnown = known;
    }

    private int hold(int[] i) {
        personOf(i[0]);
        range(i[1], 0, 39);
        range(i[2], 1, 1000);
        range(i[3], 0, 9999);
        range(i[4], i[3], 9999);
        known(holdings.size() < 80, i[5]);
        holdings.add(new Holding(i[0], i[1], i[2], i[3], i[4], i[5]));
        return 1;
    }

    private int split(int[] i) {
        range(i[0], 0, 39);
        range(i[1], 0, 9999);
        known(splits.size() < 30, i[2]);
        splits.add(new Split(i[0], i[1], i[2]));
        return 1;
    }

    private int pay(int[] i) {
        personOf(i[0]);
        range(i[1], 1, 1000);
        range(i[2], 0, 9999);
        known(payments.size() < 60, i[4]);
        payments.add(new Payment(i[0], i[1], i[2], i[3] != 0, i[4]));
        return 1;
    }

    private int fact(int person, int place, int day, int what) {
        personOf(person);
        placeDay(place, day);
        range(what, 0, 6);
        return (int) variable("land plots held split trade home paid".split(" ")[what], new Comer(person, place, day, 0));
    }

    private long variable(String name, Comer c) {
        List<Holding> theirs = holdings.stream().filter(h -> h.person == c.person && h.from <= c.day && h.to >= c.day
            && h.known <= asOf).toList();
        switch (name) {
            case "land": return theirs.stream().mapToLong(Holding::worth).sum();
            case "plots": return theirs.size();
            case "held": return theirs.stream().mapToLong(h -> c.day - h.from).max().orElse(0);
            case "split": return theirs.stream().flatMap(h -> splits.stream().filter(s -> s.plot == h.plot))
                .filter(s -> s.day <= c.day && s.known <= asOf).mapToLong(s -> c.day - s.day).min().orElse(9999);
            case "trade": return persons.get(c.person).trade;
            case "home": return persons.get(c.person).home == c.place ? 1 : 0;
            case "paid": return payments.stream().filter(p -> p.person == c.person && p.proved && p.day <= c.day
                && p.known <= asOf).mapToLong(Payment::sum).sum();
            case "minute": return c.minute;
            default: return c.day;
        }
    }

    // ---- texts

    private static final Set<String> WORDS = Set.of("strikes", "may", "unless", "bar", "void", "names", "hours", "to", "or",
        "and", "not");
    private static final Set<String> VARIABLES = Set.of("land", "plots", "held", "split", "trade", "home", "paid", "minute",
        "day");

    private int feed(int[] i) {
        if (tape.size() > 580) {
            return -1;
        }
        for (int v : i) {
            for (int k = 3; k >= 0; k--) {
                tape.add(v >>> 8 * k & 255);
            }
        }
        return tape.size();
    }

    private int text(int n, int day, int places) {
        range(n, 0, tape.size());
        range(day, 0, 9999);
        range(places, 1, 127);
        that(texts.size() < 5, 4);
        StringBuilder b = new StringBuilder();
        tape.subList(0, n).forEach(c -> b.append((char) (int) c));
        tape.clear();
        try {
            at = 0;
            source = b.toString();
            List<Rule> rules = parse();
            texts.add(new Text(day, places, rules));
            fault = 0;
            faultPlace = -1;
            return rules.size();
        } catch (Faulty e) {
            fault = e.kind;
            faultPlace = e.place;
            throw new Refused(9);
        }
    }

    private String source;
    private int at;

    /** The TOKEN from here on, read anew each time; "" is the end. */
    private Token peek() {
        int from = at;
        while (from < source.length() && (source.charAt(from) == 32 || source.charAt(from) == 10)) {
            from++;
        }
        if (from == source.length()) {
            return new Token("", from);
        }
        java.util.regex.Matcher m = java.util.regex.Pattern.compile("[a-z]+|[0-9]+|[-;:<>=+*()]").matcher(source);
        m.region(from, source.length());
        if (!m.lookingAt() || m.group().matches("[0-9]{6,}")) {
            throw new Faulty(1, from);
        }
        return new Token(m.group(), from);
    }

    private Token take(String pattern) {
        Token t = peek();
        if (!t.text.matches(pattern)) {
            throw new Faulty(2, t.place);
        }
        at = t.place + t.text.length();
        return t;
    }

    private boolean sees(String pattern) {
        return peek().text.matches(pattern);
    }

    private Token label() {
        Token t = peek();
        if (WORDS.contains(t.text) || VARIABLES.contains(t.text)) {
            throw new Faulty(2, t.place);
        }
        return take("[a-z]{1,8}");
    }

    private List<Rule> parse() {
        List<Rule> rules = new ArrayList<>();
        while (!sees("")) {
            Token label = label();
            if (rules.size() == 20) {
                throw new Faulty(3, label.place);
            }
            if (rules.stream().anyMatch(r -> r.label.equals(label.text))) {
                throw new Faulty(4, label.place);
            }
            String strikes = null;
            if (sees("strikes")) {
                take("strikes");
                strikes = label().text;
            }
            take(":");
            rules.add(does(label.text, strikes));
            take(";");
        }
        return rules;
    }

    private int number(int least, int most) {
        Token t = take("[0-9]+");
        int v = Integer.parseInt(t.text);
        if (v < least || v > most) {
            throw new Faulty(6, t.place);
        }
        return v;
    }

    private Rule does(String label, String strikes) {
        String verb = take("may|bar|void|names|hours").text;
        if (verb.equals("names")) {
            return new Rule(label, strikes, verb, null, number(1, 4), 0);
        }
        if (verb.equals("hours")) {
            int a = number(0, 1439);
            take("to");
            return new Rule(label, strikes, verb, null, a, number(a, 1439));
        }
        Predicate<Comer> test = test();
        if (sees("unless")) {
            take("unless");
            Predicate<Comer> but = test();
            Predicate<Comer> main = test;
            test = c -> main.test(c) && !but.test(c);
        }
        return new Rule(label, strikes, verb, test, 0, 0);
    }

    private Predicate<Comer> test() {
        Predicate<Comer> all = part();
        while (sees("or")) {
            take("or");
            all = all.or(part());
        }
        return all;
    }

    private Predicate<Comer> part() {
        Predicate<Comer> all = one();
        while (sees("and")) {
            take("and");
            all = all.and(one());
        }
        return all;
    }

    private Predicate<Comer> one() {
        boolean not = sees("not");
        if (not) {
            take("not");
        }
        ToLongFunction<Comer> left = sum(0);
        String op = take("[<>=]").text;
        ToLongFunction<Comer> right = sum(0);
        return c -> {
            int cmp = Long.compare(left.applyAsLong(c), right.applyAsLong(c));
            return (op.equals("<") ? cmp < 0 : op.equals(">") ? cmp > 0 : cmp == 0) != not;
        };
    }

    private ToLongFunction<Comer> sum(int depth) {
        ToLongFunction<Comer> all = item(depth);
        while (sees("[-+]")) {
            boolean plus = take("[-+]").text.equals("+");
            ToLongFunction<Comer> left = all;
            ToLongFunction<Comer> right = item(depth);
            all = c -> plus ? left.applyAsLong(c) + right.applyAsLong(c) : left.applyAsLong(c) - right.applyAsLong(c);
        }
        return all;
    }

    private ToLongFunction<Comer> item(int depth) {
        ToLongFunction<Comer> all = atom(depth);
        while (sees("[*]")) {
            take("[*]");
            ToLongFunction<Comer> left = all;
            ToLongFunction<Comer> right = atom(depth);
            all = c -> left.applyAsLong(c) * right.applyAsLong(c);
        }
        return all;
    }

    private ToLongFunction<Comer> atom(int depth) {
        Token t = peek();
        if (t.text.equals("(")) {
            if (depth == 6) {
                throw new Faulty(5, t.place);
            }
            take("[(]");
            ToLongFunction<Comer> inner = sum(depth + 1);
            take("[)]");
            return inner;
        }
        if (VARIABLES.contains(t.text)) {
            take("[a-z]+");
            return c -> variable(t.text, c);
        }
        long v = Long.parseLong("0" + take("[0-9]+").text);
        return c -> v;
    }

    private List<Rule> rules(int place, int day) {
        return texts.stream().filter(t -> t.day <= day && (t.places >> place & 1) == 1)
            .sorted(Comparator.comparingInt(Text::day)).flatMap(t -> t.rules.stream()).toList();
    }

    private static boolean isStruck(List<Rule> rules, int rule) {
        return rules.subList(rule + 1, rules.size()).stream().anyMatch(r -> rules.get(rule).label.equals(r.strikes));
    }

    private int struck(int[] i) {
        placeDay(i[0], i[1]);
        List<Rule> rules = rules(i[0], i[1]);
        range(i[2], 0, rules.size() - 1);
        return isStruck(rules, i[2]) ? 1 : 0;
    }

    private int first(Comer c, String verb) {
        List<Rule> rules = rules(c.place, c.day);
        for (int i = 0; i < rules.size(); i++) {
            if (rules.get(i).verb.equals(verb) && !isStruck(rules, i) && rules.get(i).test.test(c)) {
                return i;
            }
        }
        return -1;
    }

    private int last(int place, int day, String verb) {
        List<Rule> rules = rules(place, day);
        int found = -1;
        for (int i = 0; i < rules.size(); i++) {
            if (rules.get(i).verb.equals(verb) && !isStruck(rules, i)) {
                found = i;
            }
        }
        return found;
    }

    private int right(Comer c) {
        int hours = last(c.place, c.day, "hours");
        if (hours >= 0) {
            Rule r = rules(c.place, c.day).get(hours);
            if (c.minute < r.a || c.minute > r.b) {
                return 1;
            }
        }
        return first(c, "bar") >= 0 ? 3 : first(c, "may") >= 0 ? 0 : 2;
    }

    private int why(Comer c) {
        switch (right(c)) {
            case 1: return last(c.place, c.day, "hours");
            case 3: return first(c, "bar");
            case 0: return first(c, "may");
            default: throw new Refused(6);
        }
    }

    private int names(int place, int day) {
        int names = last(place, day, "names");
        return names < 0 ? 2 : rules(place, day).get(names).a;
    }

    // ---- books

    private int entry(int book, long name, int trade, int minute, int set) {
        range(book, 0, 2);
        letters(name);
        range(trade, -1, 19);
        range(minute, 0, 1439);
        range(set, 1, 15);
        that(books.get(book).size() < 30, 4);
        books.get(book).add(new Entry(name, trade, minute, set));
        best.clear();
        return books.get(book).size() - 1;
    }

    private static int cost(Entry a, Entry b) {
        int trade = a.trade != -1 && b.trade != -1 && a.trade != b.trade ? 2 : 0;
        return 3 * far(letters(a.name), letters(b.name)) + trade + Math.min(5, Math.abs(a.minute - b.minute) / 10)
            + (a.set == b.set ? 0 : 4);
    }

    private final List<List<Integer>> best = new ArrayList<>();

    /** COST, and behind it the mates of book 0's ENTRIES, 99 for none: the least list of all. */
    private List<Integer> best(int book) {
        if (best.isEmpty()) {
            best.add(search(1));
            best.add(search(2));
        }
        return best.get(book - 1);
    }

    private List<Integer> search(int book) {
        List<Entry> mine = books.get(0);
        List<Entry> theirs = books.get(book);
        List<List<List<Integer>>> from = new ArrayList<>();
        for (int i = 0; i <= mine.size(); i++) {
            from.add(new ArrayList<>());
        }
        for (int i = mine.size(); i >= 0; i--) {
            for (int j = 0; j <= theirs.size(); j++) {
                List<Integer> least = null;
                for (int k = j; i < mine.size() && k <= theirs.size(); k++) {
                    boolean none = k == theirs.size();
                    List<Integer> rest = from.get(i + 1).get(none ? j : k + 1);
                    int cost = none ? 10 : 10 * (k - j) + cost(mine.get(i), theirs.get(k));
                    List<Integer> way = new ArrayList<>();
                    way.add(cost + rest.get(0));
                    way.add(none ? 99 : k);
                    way.addAll(rest.subList(1, rest.size()));
                    least = least == null || Arrays.compare(ints(way), ints(least)) < 0 ? way : least;
                }
                from.get(i).add(least == null ? List.of(10 * (theirs.size() - j)) : least);
            }
        }
        return from.get(0).get(0);
    }

    private static int[] ints(List<Integer> list) {
        return list.stream().mapToInt(v -> v).toArray();
    }

    private int mate(int book, int entry) {
        int found = best(book).get(entry + 1);
        return need(found == 99 ? -1 : found);
    }

    private int joined(int entry) {
        List<Integer> sets = new ArrayList<>(List.of(books.get(0).get(entry).set));
        for (int b = 1; b <= 2; b++) {
            int mate = best(b).get(entry + 1);
            if (mate != 99) {
                sets.add(books.get(b).get(mate).set);
            }
        }
        int joined = 0;
        for (int c = 0; c < 4; c++) {
            int bit = c;
            long have = sets.stream().filter(s -> (s >> bit & 1) == 1).count();
            double part = (double) have / sets.size();
            if (part > 0.5 || part == 0.5 && (sets.get(0) >> c & 1) == 1) {
                joined += 1 << c;
            }
        }
        return joined;
    }

    private int tally(int book, int candidate) {
        range(book, 0, 3);
        range(candidate, 0, 3);
        int many = 0;
        for (int e = 0; e < books.get(book == 3 ? 0 : book).size(); e++) {
            int set = book == 3 ? joined(e) : books.get(book).get(e).set;
            many += set >> candidate & 1;
        }
        return many;
    }

    private int away(int entry, int person) {
        Entry e = books.get(0).get(entry);
        Person p = persons.get(person);
        return 3 * far(letters(e.name), letters(p.name)) + (e.trade != -1 && e.trade != p.trade ? 2 : 0);
    }

    private int who(int entry) {
        int found = -1;
        for (int p = 0; p < persons.size(); p++) {
            if (away(entry, p) <= reach && (found == -1 || away(entry, p) < away(entry, found))) {
                found = p;
            }
        }
        return found;
    }

    private boolean twice(int entry) {
        for (int e = 0; e < entry; e++) {
            if (who(e) == who(entry)) {
                return true;
            }
        }
        return false;
    }

    private int sure(int entry, int what) {
        entryOf(entry);
        range(what, 0, 1);
        int who = need(who(entry));
        if (what == 1) {
            return twice(entry) ? 1 : 0;
        }
        int like = 0;
        for (int p = 0; p < persons.size(); p++) {
            like += away(entry, p) == away(entry, who) ? 1 : 0;
        }
        return like == 1 ? 1 : 0;
    }

    private int offer(int person, int set, int minute) {
        personOf(person);
        range(set, 1, 15);
        range(minute, 0, 1439);
        that(offers.size() < 20, 4);
        offers.add(new Offer(person, set, minute));
        return offers.size() - 1;
    }

    // ---- the poll

    private int judged(Comer c, int set) {
        int right = right(c);
        int many = Integer.bitCount(set);
        return right == 1 ? 3 : right == 2 ? 4 : right == 3 ? 5 : first(c, "void") >= 0 ? 6
            : many > names(c.place, c.day) || many == 0 ? 7 : 0;
    }

    private int standing(int entry, int place, int day) {
        int who = who(entry);
        if (who == -1) {
            return 1;
        }
        if (twice(entry)) {
            return 2;
        }
        return judged(new Comer(who, place, day, books.get(0).get(entry).minute), joined(entry));
    }

    private int stands(int offer, int place, int day) {
        Offer o = offers.get(offer);
        for (int e = 0; e < books.get(0).size(); e++) {
            if (who(e) == o.person && standing(e, place, day) == 0) {
                return 2;
            }
        }
        for (int k = 0; k < offer; k++) {
            // one ahead that would be GOOD but for its like is 2 through one that is GOOD
            if (offers.get(k).person == o.person && judged(new Comer(o.person, place, day, offers.get(k).minute),
                offers.get(k).set) == 0) {
                return 2;
            }
        }
        return judged(new Comer(o.person, place, day, o.minute), o.set);
    }

    private int[] polls(int place, int day, boolean withOffers) {
        int[] sums = new int[4];
        for (int e = 0; e < books.get(0).size(); e++) {
            if (standing(e, place, day) == 0) {
                add(sums, joined(e), 1);
            }
        }
        for (int o = 0; withOffers && o < offers.size(); o++) {
            if (stands(o, place, day) == 0) {
                add(sums, offers.get(o).set, 1);
            }
        }
        return sums;
    }

    private static void add(int[] sums, int set, int much) {
        for (int c = 0; c < 4; c++) {
            if ((set >> c & 1) == 1) {
                sums[c] += much;
            }
        }
    }

    private static List<Integer> seats(int[] sums) {
        List<Integer> all = new ArrayList<>(List.of(0, 1, 2, 3));
        all.sort((a, b) -> sums[b] - sums[a]);
        return all.subList(0, 2);
    }

    // ---- grounds

    private int ground(boolean on, int which) {
        range(which, 0, (on ? offers.size() : books.get(0).size()) - 1);
        that(grounds.size() < 10, 4);
        that(!grounds.contains(new Ground(on, which)), 7);
        grounds.add(new Ground(on, which));
        return grounds.size() - 1;
    }

    private int against(int a, int b) {
        range(a, 0, grounds.size() - 1);
        range(b, 0, grounds.size() - 1);
        that(a != b, 1);
        that(against.add(1 << a | 1 << b), 7);
        return 1;
    }

    private int[] written(int set) {
        int[] sums = new int[4];
        for (int e = 0; e < books.get(0).size(); e++) {
            int taken = grounds.indexOf(new Ground(false, e));
            if (taken == -1 || (set >> taken & 1) == 0) {
                add(sums, joined(e), 1);
            }
        }
        for (int o = 0; o < offers.size(); o++) {
            int put = grounds.indexOf(new Ground(true, o));
            if (put != -1 && (set >> put & 1) == 1) {
                add(sums, offers.get(o).set, 1);
            }
        }
        return sums;
    }

    private int turns(int candidate, int what) {
        range(candidate, 0, 3);
        range(what, 0, 2);
        List<Integer> turning = new ArrayList<>();
        for (int set = 0; set < 1 << grounds.size(); set++) {
            int s = set;
            if (against.stream().noneMatch(pair -> (s & pair) == pair) && seats(written(set)).contains(candidate)) {
                turning.add(set);
            }
        }
        that(!turning.isEmpty(), 6);
        int fewest = turning.stream().mapToInt(Integer::bitCount).min().orElse(0);
        List<Integer> least = turning.stream().filter(s -> Integer.bitCount(s) == fewest).toList();
        return what == 0 ? fewest : what == 1 ? least.size() : least.stream().mapToInt(v -> v).min().orElse(0);
    }

    // ---- members, coaches

    private int member(int lean, int kin) {
        range(lean, -9, 9);
        range(kin, 0, 20);
        that(members.size() < 30, 4);
        members.add(new Member(lean, kin));
        return members.size() - 1;
    }

    private int draw(int n, int m, int seed) {
        range(n, 1, 30);
        range(m, 0, n);
        range(seed, 0, Integer.MAX_VALUE);
        List<Integer> left = new ArrayList<>();
        for (int i = 0; i < members.size(); i++) {
            int kin = members.get(i).kin;
            if (kin == 0 || Arrays.stream(kins).noneMatch(k -> k == kin)) {
                left.add(i);
            }
        }
        that(left.size() >= n, 6);
        List<Integer> drawn = new ArrayList<>();
        int lot = seed;
        for (int i = 0; i < n; i++) {
            lot = lot * 1103515245 + 12345 & Integer.MAX_VALUE;
            drawn.add(left.remove((lot >> 16) % left.size()));
        }
        boolean least = true;
        while (drawn.size() > m) {
            drawn.sort(null);
            Comparator<Integer> byLean = Comparator.comparingInt(i -> members.get(i).lean);
            drawn.sort(least ? byLean : byLean.reversed());
            drawn.remove(0);
            least = !least;
        }
        drawn.sort(null);
        bench = drawn;
        return bench.stream().mapToInt(i -> members.get(i).lean).sum();
    }

    private int miles(int a, int b, int much) {
        range(a, 0, 6);
        range(b, 0, 6);
        that(a != b, 1);
        range(much, 1, 1000);
        miles[a][b] = much;
        miles[b][a] = much;
        return 1;
    }

    private int coaches(int place, int tray, int room) {
        range(place, 0, 6);
        range(tray, 0, 3);
        range(room, 1, 20);
        that(trays[tray] != null, 2);
        that(trays[tray].length >= 7, 3);
        for (int p = 0; p < 7; p++) {
            range(trays[tray][p], 0, 100);
        }
        int all = 0;
        int many = 0;
        List<int[]> waits = new ArrayList<>();
        for (int p = 0; p < 7; p++) {
            int wait = p == place ? 0 : (int) trays[tray][p];
            while (wait > room) {
                wait -= room;
                all += 2 * miles[place][p];
                many++;
            }
            if (wait > 0) {
                waits.add(new int[] {p, wait});
            }
        }
        int[] best = {Integer.MAX_VALUE, 0};
        share(place, room, waits, new ArrayList<>(), best);
        coachMany = many + best[1];
        return all + best[0];
    }

    /** All ways to put the PLACES that are left into coaches. */
    private void share(int home, int room, List<int[]> waits, List<List<int[]>> coaches, int[] best) {
        if (waits.isEmpty()) {
            int all = coaches.stream().mapToInt(c -> round(home, home, c)).sum();
            if (all < best[0] || all == best[0] && coaches.size() < best[1]) {
                best[0] = all;
                best[1] = coaches.size();
            }
            return;
        }
        List<int[]> rest = waits.subList(1, waits.size());
        for (int k = 0; k <= coaches.size(); k++) {
            List<List<int[]>> next = new ArrayList<>();
            coaches.forEach(c -> next.add(new ArrayList<>(c)));
            if (k == coaches.size()) {
                next.add(new ArrayList<>());
            }
            next.get(k).add(waits.get(0));
            if (next.get(k).stream().mapToInt(w -> w[1]).sum() <= room) {
                share(home, room, rest, next, best);
            }
        }
    }

    private int round(int home, int from, List<int[]> left) {
        if (left.isEmpty()) {
            return miles[from][home];
        }
        int least = Integer.MAX_VALUE;
        for (int k = 0; k < left.size(); k++) {
            List<int[]> others = new ArrayList<>(left);
            int[] next = others.remove(k);
            least = Math.min(least, miles[from][next[0]] + round(home, next[0], others));
        }
        return least;
    }
}
