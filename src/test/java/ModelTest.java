import java.math.BigInteger;
import java.util.ArrayList;
import java.util.Arrays;
import java.util.HashSet;
import java.util.List;
import java.util.Random;
import java.util.Set;
import java.util.regex.Matcher;
import java.util.regex.Pattern;

/**
 * Random runs of calls, each answer held against a plain model of the document that lists every row one by one.
 * The model shares nothing with the class but its face.
 */
public final class ModelTest {
    private static final int RUNS = 700;
    private static final int CALLS = 512;
    private static final int NONE = -1, UNKNOWN = -2, OUTSIDE = -3, NOT = -4, FULL = -5;
    private static final String[] WORDS =
        {"library", "plain", "flatterer", "blind", "sulker", "feud", "move", "book", "peace"};

    private static final class Person {
        int kind, rank, moves = 99;
        Set<Integer> feuds = new HashSet<>();
    }

    private static final class Book {
        int first, holder, namedOn;
        List<Integer> had = new ArrayList<>();
        Book copy() {
            Book b = new Book();
            b.first = first;
            b.holder = holder;
            b.namedOn = namedOn;
            b.had = new ArrayList<>(had);
            return b;
        }
        int hadBits() {
            int bits = 0;
            for (int r : had) bits |= 1 << r;
            return bits;
        }
    }

    /** A row with its chance: 420^7 over the product of the lots. */
    private record Row(List<Integer> readers, BigInteger chance) { }

    private record State(int day, List<Book> books) { }

    private static final class Model {
        static final BigInteger ONE = BigInteger.valueOf(420).pow(7);
        StringBuilder text = new StringBuilder();
        List<Person> people = new ArrayList<>();
        List<Book> books = new ArrayList<>();
        int day;
        List<State> past = new ArrayList<>();
        State[] kept = new State[2];
        List<int[]> slips = new ArrayList<>();

        State state() {
            List<Book> copies = new ArrayList<>();
            for (Book b : books) copies.add(b.copy());
            return new State(day, copies);
        }

        void restore(State s) {
            day = s.day();
            books = new ArrayList<>();
            for (Book b : s.books()) books.add(b.copy());
        }

        boolean noReader(int r) { return r < 0 || r >= people.size(); }
        boolean noBook(int b) { return b < 0 || b >= books.size(); }

        boolean mayName(int a, int b, int onDay) {
            if (a == b) return false;
            Person p = people.get(a), q = people.get(b);
            if (q.moves != 99 && q.moves <= onDay) return false;
            if (p.feuds.contains(b) && p.kind != 2) return false;
            if (p.kind == 1 && q.rank < p.rank) return false;
            return !(p.kind == 3 && q.rank > p.rank);
        }

        List<Integer> choices(int holder, List<Integer> had, int onDay) {
            List<Integer> list = new ArrayList<>();
            for (int r = 0; r < people.size(); r++) {
                if (!had.contains(r) && mayName(holder, r, onDay)) list.add(r);
            }
            return list;
        }

        List<Integer> choicesNow(int book) {
            Book b = books.get(book);
            return choices(b.holder, b.had, day);
        }

        // the text

        private record Token(String word, int place) { }

        private static final class Fault extends Exception {
            final int place;
            Fault(int place) { this.place = place; }
        }

        List<Token> tokens() {
            List<Token> list = new ArrayList<>();
            Matcher m = Pattern.compile("[a-z]+|[0-9]+|[^ ]", Pattern.DOTALL).matcher(text);
            while (m.find()) list.add(new Token(m.group(), m.start()));
            return list;
        }

        /** Does the clauses on this model itself; the caller makes a copy of it first. */
        int doClauses() throws Fault {
            List<Token> tokens = tokens();
            int at = 0;
            for (int clause = 1; ; clause++) {
                at = doClause(tokens, at);
                if (at == tokens.size()) return clause;
                if (!tokens.get(at).word().equals(";") || clause == 14) throw new Fault(tokens.get(at).place());
                at++;
            }
        }

        int doClause(List<Token> tokens, int at) throws Fault {
            if (at >= tokens.size()) throw new Fault(text.length());
            int word = Arrays.asList(WORDS).indexOf(tokens.get(at).word());
            int place = tokens.get(at).place();
            if (word < 0) throw new Fault(place);
            switch (WORDS[word]) {
                case "library" -> { people = new ArrayList<>(); books = new ArrayList<>(); return at + 1; }
                case "peace" -> { for (Person p : people) p.feuds.clear(); return at + 1; }
                case "feud" -> {
                    int a = number(tokens, at + 1, people.size(), -1);
                    int b = number(tokens, at + 2, people.size(), a);
                    people.get(a).feuds.add(b);
                    people.get(b).feuds.add(a);
                    return at + 3;
                }
                case "move" -> {
                    int a = number(tokens, at + 1, people.size(), -1);
                    people.get(a).moves = number(tokens, at + 2, 100, -1);
                    return at + 3;
                }
                case "book" -> {
                    if (books.size() == 4) throw new Fault(place);
                    Book b = new Book();
                    b.first = number(tokens, at + 1, people.size(), -1);
                    books.add(b);
                    return at + 2;
                }
                default -> {
                    if (people.size() == 8) throw new Fault(place);
                    Person p = new Person();
                    p.kind = word - 1;
                    p.rank = number(tokens, at + 1, 10, -1);
                    people.add(p);
                    return at + 2;
                }
            }
        }

        int number(List<Token> tokens, int at, int bound, int not) throws Fault {
            if (at >= tokens.size()) throw new Fault(text.length());
            Token t = tokens.get(at);
            if (!t.word().matches("[0-9]{1,2}")) throw new Fault(t.place());
            int n = Integer.parseInt(t.word());
            if (n >= bound || n == not) throw new Fault(t.place());
            return n;
        }

        Model copyOfTold() {
            Model m = new Model();
            m.text = new StringBuilder(text);
            for (Person p : people) {
                Person q = new Person();
                q.kind = p.kind;
                q.rank = p.rank;
                q.moves = p.moves;
                q.feuds = new HashSet<>(p.feuds);
                m.people.add(q);
            }
            for (Book b : books) m.books.add(b.copy());
            return m;
        }

        int fault() {
            try {
                copyOfTold().doClauses();
                return NONE;
            } catch (Fault f) {
                return f.place;
            }
        }

        int library() {
            Model m = copyOfTold();
            int done;
            try {
                done = m.doClauses();
            } catch (Fault f) {
                return NOT;
            }
            text = new StringBuilder();
            people = m.people;
            books = m.books;
            for (Book b : books) {
                b.holder = b.first;
                b.had = new ArrayList<>(List.of(b.first));
                b.namedOn = 0;
            }
            day = 0;
            past = new ArrayList<>();
            kept = new State[2];
            slips = new ArrayList<>();
            return done;
        }

        // the calls

        int write(int letter) {
            if (letter < 0 || letter > 255) return OUTSIDE;
            if (text.length() == 160) return FULL;
            text.append((char) letter);
            return text.length();
        }

        int erase() {
            int n = text.length();
            text = new StringBuilder();
            return n;
        }

        int reader(int r, int what) {
            if (noReader(r)) return UNKNOWN;
            Person p = people.get(r);
            int bits = 0;
            switch (what) {
                case 0: return p.kind;
                case 1: return p.rank;
                case 2: for (int f : p.feuds) bits |= 1 << f; return bits;
                case 3: return p.moves;
                case 4: for (int b = 0; b < books.size(); b++) if (books.get(b).holder == r) bits |= 1 << b; return bits;
                case 5: for (int b = 0; b < books.size(); b++) if (books.get(b).had.contains(r)) bits |= 1 << b; return bits;
                default: return OUTSIDE;
            }
        }

        int book(int b, int what) {
            if (noBook(b)) return UNKNOWN;
            Book k = books.get(b);
            switch (what) {
                case 0: return k.holder;
                case 1: return k.hadBits();
                case 2: return day - k.namedOn;
                case 3: return choicesNow(b).isEmpty() ? 1 : 0;
                case 4: return k.first;
                default: return OUTSIDE;
            }
        }

        int as(int r, int kind) {
            if (noReader(r)) return UNKNOWN;
            if (kind < 0 || kind > 4) return OUTSIDE;
            List<Integer> is = switch (people.get(r).kind) {
                case 0 -> List.of(0, 1);
                case 1 -> List.of(0, 1, 2);
                case 2 -> List.of(0, 3);
                default -> List.of(0, 1, 2, 4);
            };
            if (!is.contains(kind)) return NOT;
            int bits = 0;
            for (int o : choices(r, List.of(), day)) bits |= 1 << o;
            return bits;
        }

        int may(int b, int r) {
            if (noBook(b) || noReader(r)) return UNKNOWN;
            return choicesNow(b).contains(r) ? 1 : 0;
        }

        void remember() {
            past.add(state());
            if (past.size() > 8) past.remove(0);
        }

        int name(int b, int r) {
            if (noBook(b) || noReader(r)) return UNKNOWN;
            if (!choicesNow(b).contains(r)) return NOT;
            if (day == 999) return FULL;
            remember();
            Book k = books.get(b);
            k.holder = r;
            k.had.add(r);
            k.namedOn = day;
            day++;
            return k.had.size();
        }

        int day() {
            if (day == 999) return FULL;
            remember();
            return ++day;
        }

        int undo() {
            if (past.isEmpty()) return NOT;
            restore(past.remove(past.size() - 1));
            return past.size();
        }

        int keep(int k) {
            if (k < 0 || k > 1) return UNKNOWN;
            kept[k] = state();
            return day;
        }

        int back(int k) {
            if (k < 0 || k > 1) return UNKNOWN;
            if (kept[k] == null) return NOT;
            restore(kept[k]);
            past.clear();
            return day;
        }

        // foretold

        List<Row> rows(int b) {
            List<Row> rows = new ArrayList<>();
            Book k = books.get(b);
            addRows(rows, k.holder, new ArrayList<>(k.had), day, new ArrayList<>(), ONE);
            return rows;
        }

        void addRows(List<Row> rows, int holder, List<Integer> had, int onDay, List<Integer> row, BigInteger chance) {
            List<Integer> choices = choices(holder, had, onDay);
            if (choices.isEmpty()) rows.add(new Row(new ArrayList<>(row), chance));
            for (int r : choices) {
                had.add(r);
                row.add(r);
                addRows(rows, r, had, onDay + 1, row, chance.divide(BigInteger.valueOf(choices.size())));
                row.remove(row.size() - 1);
                had.remove(had.size() - 1);
            }
        }

        List<Row> longestRows(int b) {
            List<Row> best = new ArrayList<>();
            int most = -1;
            for (Row r : rows(b)) {
                if (r.readers().size() > most) {
                    best.clear();
                    most = r.readers().size();
                }
                if (r.readers().size() == most) best.add(r);
            }
            return best;
        }

        int longest(int b, int what) {
            if (noBook(b)) return UNKNOWN;
            if (what < 0 || what > 1) return OUTSIDE;
            List<Row> best = longestRows(b);
            return what == 0 ? best.get(0).readers().size() : best.size();
        }

        int row(int b, int i) {
            if (noBook(b)) return UNKNOWN;
            if (i < 0) return OUTSIDE;
            List<Integer> first = null;
            for (Row r : longestRows(b)) {
                if (first == null || r.readers().toString().compareTo(first.toString()) < 0) first = r.readers();
            }
            return i < first.size() ? first.get(i) : NONE;
        }

        int shortest(int b) {
            if (noBook(b)) return UNKNOWN;
            int fewest = 99;
            for (Row r : rows(b)) fewest = Math.min(fewest, r.readers().size());
            return fewest;
        }

        int can(int b) {
            if (noBook(b)) return UNKNOWN;
            int bits = 0;
            for (Row r : rows(b)) for (int p : r.readers()) bits |= 1 << p;
            return bits;
        }

        int all(int b) {
            if (noBook(b)) return UNKNOWN;
            int bits = 255;
            for (Row r : longestRows(b)) {
                int in = 0;
                for (int p : r.readers()) in |= 1 << p;
                bits &= in;
            }
            return bits;
        }

        int fame(int b) {
            if (noBook(b)) return UNKNOWN;
            int most = 0;
            for (Row r : rows(b)) {
                int sum = 0;
                for (int p : r.readers()) sum += people.get(p).rank;
                most = Math.max(most, sum);
            }
            return most;
        }

        long part(BigInteger above, int part) {
            BigInteger g = above.gcd(ONE);
            return (part == 0 ? above : ONE).divide(g).longValueExact();
        }

        long mean(int b, int part) {
            if (noBook(b)) return UNKNOWN;
            if (part < 0 || part > 1) return OUTSIDE;
            BigInteger sum = BigInteger.ZERO;
            for (Row r : rows(b)) sum = sum.add(r.chance().multiply(BigInteger.valueOf(r.readers().size())));
            return part(sum, part);
        }

        long odds(int b, int reader, int part) {
            if (noBook(b) || noReader(reader)) return UNKNOWN;
            if (part < 0 || part > 1) return OUTSIDE;
            if (books.get(b).had.contains(reader)) return 1;
            BigInteger sum = BigInteger.ZERO;
            for (Row r : rows(b)) if (r.readers().contains(reader)) sum = sum.add(r.chance());
            return part(sum, part);
        }

        int winner(int holder, List<Integer> had, int onDay) {
            for (int r : choices(holder, had, onDay)) {
                List<Integer> then = new ArrayList<>(had);
                then.add(r);
                if (winner(r, then, onDay + 1) == NONE) return r;
            }
            return NONE;
        }

        int turns(int b, int what) {
            if (noBook(b)) return UNKNOWN;
            if (what < 0 || what > 1) return OUTSIDE;
            int whom = winner(books.get(b).holder, books.get(b).had, day);
            return what == 1 ? whom : whom == NONE ? 0 : 1;
        }

        int ringsFrom(List<Integer> row, int k) {
            int last = row.isEmpty() ? NONE : row.get(row.size() - 1);
            if (row.size() == k) return mayName(last, row.get(0), day) ? 1 : 0;
            int n = 0;
            for (int r = 0; r < people.size(); r++) {
                if (row.contains(r) || last != NONE && !mayName(last, r, day)) continue;
                row.add(r);
                n += ringsFrom(row, k);
                row.remove(row.size() - 1);
            }
            return n;
        }

        int clubs(int k) {
            if (k < 2 || k > 6) return OUTSIDE;
            return ringsFrom(new ArrayList<>(), k) / k;
        }

        int meet(int one, int other) {
            if (noBook(one) || noBook(other) || one == other) return UNKNOWN;
            Book a = books.get(one), b = books.get(other);
            Set<List<Integer>> now = new HashSet<>();
            now.add(List.of(a.holder, a.hadBits(), b.holder, b.hadBits()));
            for (int n = 0; n <= 7; n++) {
                for (List<Integer> s : now) if (s.get(0).equals(s.get(2))) return n;
                Set<List<Integer>> then = new HashSet<>();
                for (List<Integer> s : now) {
                    for (int p : choices(s.get(0), listOf(s.get(1)), day + n)) {
                        for (int q : choices(s.get(2), listOf(s.get(3)), day + n)) {
                            then.add(List.of(p, s.get(1) | 1 << p, q, s.get(3) | 1 << q));
                        }
                    }
                }
                now = then;
            }
            return NONE;
        }

        static List<Integer> listOf(int bits) {
            List<Integer> list = new ArrayList<>();
            for (int i = 0; i < 8; i++) if ((bits >> i & 1) == 1) list.add(i);
            return list;
        }

        // slips

        int slip(int one, int other) {
            if (noReader(one) || noReader(other) || one == other) return UNKNOWN;
            if (slips.size() == 8) return FULL;
            slips.add(new int[] {one, other});
            return slips.size();
        }

        int burn() {
            int n = slips.size();
            slips.clear();
            return n;
        }

        boolean oneRow(List<int[]> rest) {
            Set<Integer> from = new HashSet<>(), to = new HashSet<>();
            for (int[] s : rest) {
                if (!from.add(s[0]) || !to.add(s[1]) || !mayName(s[0], s[1], 0)) return false;
            }
            // Without a ring somebody always names and is named by nobody: strip his slip, till none is left.
            List<int[]> left = new ArrayList<>(rest);
            while (!left.isEmpty()) {
                Set<Integer> named = new HashSet<>();
                for (int[] s : left) named.add(s[1]);
                if (!left.removeIf(s -> !named.contains(s[0]))) return false;
            }
            return true;
        }

        List<int[]> without(int set) {
            List<int[]> rest = new ArrayList<>();
            for (int i = 0; i < slips.size(); i++) if ((set >> i & 1) == 0) rest.add(slips.get(i));
            return rest;
        }

        int forgedSet() {
            for (int size = 0; size <= slips.size(); size++) {
                for (int set = 0; set < 1 << slips.size(); set++) {
                    if (Integer.bitCount(set) == size && oneRow(without(set))) return set;
                }
            }
            throw new IllegalStateException("all of them forged is always one");
        }

        int forged(int what) {
            if (what < 0 || what > 1) return OUTSIDE;
            return what == 0 ? Integer.bitCount(forgedSet()) : forgedSet();
        }

        int holder() {
            List<int[]> rest = without(forgedSet());
            for (int r = 0; r < people.size(); r++) {
                boolean named = false, names = false;
                for (int[] s : rest) {
                    named |= s[1] == r;
                    names |= s[0] == r;
                }
                if (named && !names) return r;
            }
            return NONE;
        }

        int count(int what) {
            int n = 0;
            switch (what) {
                case 0: return people.size();
                case 1: return books.size();
                case 2: return day;
                case 3: for (Person p : people) n += p.feuds.size(); return n / 2;
                case 4: for (int b = 0; b < books.size(); b++) if (choicesNow(b).isEmpty()) n |= 1 << b; return n;
                case 5: return slips.size();
                case 6: for (Book b : books) n += b.had.size() - 1; return n;
                case 7: return past.size();
                case 8: return text.length();
                default: return OUTSIDE;
            }
        }
    }

    // the runs

    private static final Random random = new Random(20261118);
    private static NamedNext x;
    private static Model m;
    private static List<String> calls;
    private static int left;
    private static int wrong;

    private static void due(String call, long got, long want) {
        calls.add(call + " = " + got);
        left--;
        if (got != want) {
            wrong++;
            if (wrong <= 10) {
                System.out.println("model: " + call + " answered " + got + ", due is " + want + " behind " + tail());
            }
        }
    }

    private static String tail() {
        return calls.subList(Math.max(0, calls.size() - 220), calls.size()).toString();
    }

    private static int pick(int from, int to) { return from + random.nextInt(to - from + 1); }

    /** Mostly one that there is, now and then one beyond. */
    private static int some(int size) {
        return random.nextInt(25) == 0 ? pick(-2, size + 1) : size == 0 ? 0 : random.nextInt(size);
    }

    private static int strange(int from, int to) {
        if (random.nextInt(25) != 0) return pick(from, to);
        int[] far = {from - 1, to + 1, Integer.MIN_VALUE, Integer.MAX_VALUE, -1, 64};
        return far[random.nextInt(far.length)];
    }

    private static void tell(String text) {
        for (int i = 0; i < text.length(); i++) {
            int letter = text.charAt(i);
            due("write(" + letter + ")", x.write(letter), m.write(letter));
        }
    }

    private static String clause(int people) {
        String blank = random.nextInt(12) == 0 ? "  " : " ";
        int n = Math.max(people, 1);
        switch (random.nextInt(10)) {
            case 0: case 1: case 2: return WORDS[pick(1, 4)] + blank + pick(0, 9);
            case 3: return "book" + blank + random.nextInt(n);
            case 4: return "move" + blank + random.nextInt(n) + blank + pick(0, random.nextInt(3) == 0 ? 99 : 5);
            case 5: return random.nextInt(4) == 0 ? "library" : "peace";
            default: return "feud" + blank + random.nextInt(n) + blank + random.nextInt(n);
        }
    }

    private static String people(int n) {
        StringBuilder s = new StringBuilder();
        for (int i = 0; i < n; i++) {
            s.append(i == 0 ? "" : ";").append(WORDS[pick(1, 4)]).append(' ').append(pick(0, 9));
        }
        return s.toString();
    }

    private static String moreClauses(int n, int people) {
        StringBuilder s = new StringBuilder();
        for (int i = 0; i < n; i++) s.append(i == 0 ? "" : ";").append(clause(people));
        return s.toString();
    }

    /** Spoils a letter now and then, so that faults come at all places. */
    private static String spoiled(String text) {
        StringBuilder s = new StringBuilder(text);
        int at = s.length() == 0 ? 0 : random.nextInt(s.length());
        switch (random.nextInt(6)) {
            case 0: s.insert(at, (char) pick(0, 255)); break;
            case 1: s.insert(at, (char) pick('0', '9')); break;
            case 2: s.insert(at, ' '); break;
            case 3: if (s.length() > 0) s.deleteCharAt(at); break;
            case 4: s.setLength(at); break;
            default: s.append(';'); break;
        }
        return s.toString();
    }

    private static void tellAndDo(String text) {
        if (left < text.length() + 2) return;
        tell(text);
        due("fault() of '" + m.text + "'", x.fault(), m.fault());
        if (random.nextInt(4) == 0) return;
        due("library()", x.library(), m.library());
        if (random.nextInt(2) == 0) due("erase()", x.erase(), m.erase());
    }

    private static void run() {
        x = new NamedNext();
        m = new Model();
        calls = new ArrayList<>();
        left = CALLS;
        tellAndDo(people(pick(1, 8)));
        tellAndDo(moreClauses(pick(1, 6), m.people.size()) + ";book " + pick(0, 2) + ";book " + pick(0, 3));
        while (left > 0) {
            if (random.nextInt(40) == 0) {
                String text = random.nextBoolean() ? moreClauses(pick(1, 15), m.people.size()) : people(pick(1, 3));
                tellAndDo(random.nextInt(3) == 0 ? spoiled(text) : text);
            }
            call();
        }
    }

    private static void call() {
        int b = some(m.books.size()), c = some(m.books.size());
        int r = some(m.people.size()), q = some(m.people.size());
        int k = strange(0, 1);
        switch (random.nextInt(34)) {
            case 0: { int w = strange(0, 5); due("reader(" + r + ", " + w + ")", x.reader(r, w), m.reader(r, w)); break; }
            case 1: { int w = strange(0, 4); due("book(" + b + ", " + w + ")", x.book(b, w), m.book(b, w)); break; }
            case 2: { int w = strange(0, 4); due("as(" + r + ", " + w + ")", x.as(r, w), m.as(r, w)); break; }
            case 3: due("may(" + b + ", " + r + ")", x.may(b, r), m.may(b, r)); break;
            case 4: case 5: case 6: due("name(" + b + ", " + r + ")", x.name(b, r), m.name(b, r)); break;
            case 7: due("day()", x.day(), m.day()); break;
            case 8: case 9: due("undo()", x.undo(), m.undo()); break;
            case 10: due("keep(" + k + ")", x.keep(k), m.keep(k)); break;
            case 11: due("back(" + k + ")", x.back(k), m.back(k)); break;
            case 12: due("longest(" + b + ", " + k + ")", x.longest(b, k), m.longest(b, k)); break;
            case 13: { int i = strange(0, 7); due("row(" + b + ", " + i + ")", x.row(b, i), m.row(b, i)); break; }
            case 14: due("shortest(" + b + ")", x.shortest(b), m.shortest(b)); break;
            case 15: due("can(" + b + ")", x.can(b), m.can(b)); break;
            case 16: due("all(" + b + ")", x.all(b), m.all(b)); break;
            case 17: due("fame(" + b + ")", x.fame(b), m.fame(b)); break;
            case 18: due("mean(" + b + ", " + k + ")", x.mean(b, k), m.mean(b, k)); break;
            case 19: due("odds(" + b + ", " + r + ", " + k + ")", x.odds(b, r, k), m.odds(b, r, k)); break;
            case 20: due("turns(" + b + ", " + k + ")", x.turns(b, k), m.turns(b, k)); break;
            case 21: { int n = strange(2, 6); due("clubs(" + n + ")", x.clubs(n), m.clubs(n)); break; }
            case 22: case 23: due("meet(" + b + ", " + c + ")", x.meet(b, c), m.meet(b, c)); break;
            case 24: case 25: case 26: due("slip(" + r + ", " + q + ")", x.slip(r, q), m.slip(r, q)); break;
            case 27: if (random.nextInt(6) == 0) due("burn()", x.burn(), m.burn()); break;
            case 28: due("forged(" + k + ")", x.forged(k), m.forged(k)); break;
            case 29: due("holder()", x.holder(), m.holder()); break;
            case 30: case 31: { int w = strange(0, 8); due("count(" + w + ")", x.count(w), m.count(w)); break; }
            case 32: { int l = strange(0, 255); due("write(" + l + ")", x.write(l), m.write(l)); break; }
            default:
                due("fault()", x.fault(), m.fault());
                if (random.nextInt(3) == 0) due("erase()", x.erase(), m.erase());
        }
    }

    public static void main(String[] args) {
        for (int run = 0; run < RUNS; run++) run();
        System.out.println(wrong == 0 ? "all answers are as the model's" : wrong + " answers are not as the model's");
        if (wrong != 0) System.exit(1);
    }
}
