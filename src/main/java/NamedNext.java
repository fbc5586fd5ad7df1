import java.util.Arrays;

/** A library that lends a book only to whom its last reader names. What each call answers is told in DOC.md. */
public final class NamedNext {
    public static final int NONE = -1, UNKNOWN = -2, OUTSIDE = -3, NOT = -4, FULL = -5;

    private static final int MOST_READERS = 8, MOST_BOOKS = 4, MOST_SLIPS = 8;
    private static final int MOST_LETTERS = 160, MOST_CLAUSES = 14, LAST_LETTER = 255;
    private static final int MOST_KEPT = 2, MOST_UNDONE = 8;
    private static final int RANKS = 10, MOVING_DAYS = 100, NEVER = 99, LAST_DAY = 999;
    private static final int SMALLEST_CLUB = 2, LARGEST_CLUB = 6;

    private static final int PLAIN = 0, FLATTERER = 1, BLIND = 2, SULKER = 3;
    private static final int KINDS_OVER = 5;
    /** By KIND, what such a one is, by bits: 0 a reader, 1 plain, 2 a flatterer, 3 blind, 4 a sulker. */
    private static final int[] WHAT_HE_IS = {0b00011, 0b00111, 0b01001, 0b10111};

    private final Text text;
    private final Told told;
    private final Clauses clauses;
    private final Days days;
    private final Past past;
    private final Days[] kept;
    private int keptSlots;
    private final Rows rows;
    private final int[] placesOfOne;
    private final int[] placesOfOther;
    private final Slips slips;

    public NamedNext() {
        text = new Text();
        told = new Told();
        clauses = new Clauses(text);
        days = new Days();
        past = new Past();
        kept = new Days[MOST_KEPT];
        for (int k = 0; k < MOST_KEPT; k++) {
            kept[k] = new Days();
        }
        rows = new Rows(told);
        placesOfOne = new int[MOST_READERS];
        placesOfOther = new int[MOST_READERS];
        slips = new Slips();
    }

    // ---- what is told

    public int write(int letter) {
        if (letter < 0 || letter > LAST_LETTER) {
            return OUTSIDE;
        }
        return text.append((char) letter) ? text.length : FULL;
    }

    public int erase() {
        int had = text.length;
        text.empty();
        return had;
    }

    public int fault() {
        return clauses.firstFault(told);
    }

    public int library() {
        if (clauses.firstFault(told) != NONE) {
            return NOT;
        }
        told.copyFrom(clauses.draft);
        text.empty();
        days.beginAnew(told);
        past.forget();
        keptSlots = 0;
        slips.size = 0;
        return clauses.done;
    }

    public int reader(int reader, int what) {
        if (!told.hasReader(reader)) {
            return UNKNOWN;
        }
        switch (what) {
            case 0: return told.kinds[reader];
            case 1: return told.ranks[reader];
            case 2: return told.feuds[reader];
            case 3: return told.moves[reader];
            case 4: return booksHeldBy(reader);
            case 5: return booksHadBy(reader);
            default: return OUTSIDE;
        }
    }

    public int book(int book, int what) {
        if (!told.hasBook(book)) {
            return UNKNOWN;
        }
        switch (what) {
            case 0: return days.holders[book];
            case 1: return days.had[book];
            case 2: return days.today - days.lastNamed[book];
            case 3: return namableNow(book) == 0 ? 1 : 0;
            case 4: return told.firsts[book];
            default: return OUTSIDE;
        }
    }

    public int as(int reader, int kind) {
        if (!told.hasReader(reader)) {
            return UNKNOWN;
        }
        if (kind < 0 || kind >= KINDS_OVER) {
            return OUTSIDE;
        }
        // Taken as whatever he is, he names by the rule of his own kind.
        return hasBit(WHAT_HE_IS[told.kinds[reader]], kind) ? told.namable(reader, days.today) : NOT;
    }

    public int may(int book, int reader) {
        if (!told.hasBook(book) || !told.hasReader(reader)) {
            return UNKNOWN;
        }
        return hasBit(namableNow(book), reader) ? 1 : 0;
    }

    // ---- days

    public int name(int book, int reader) {
        if (!told.hasBook(book) || !told.hasReader(reader)) {
            return UNKNOWN;
        }
        if (!hasBit(namableNow(book), reader)) {
            return NOT;
        }
        if (days.today >= LAST_DAY) {
            return FULL;
        }
        past.remember(days);
        days.passOn(book, reader);
        return Integer.bitCount(days.had[book]);
    }

    public int day() {
        if (days.today >= LAST_DAY) {
            return FULL;
        }
        past.remember(days);
        days.today++;
        return days.today;
    }

    public int undo() {
        if (past.size == 0) {
            return NOT;
        }
        past.takeBack(days);
        return past.size;
    }

    public int keep(int k) {
        if (k < 0 || k >= MOST_KEPT) {
            return UNKNOWN;
        }
        kept[k].copyFrom(days);
        keptSlots |= 1 << k;
        return days.today;
    }

    public int back(int k) {
        if (k < 0 || k >= MOST_KEPT) {
            return UNKNOWN;
        }
        if (!hasBit(keptSlots, k)) {
            return NOT;
        }
        days.copyFrom(kept[k]);
        past.forget();
        return days.today;
    }

    // ---- foretold

    public int longest(int book, int what) {
        if (!told.hasBook(book)) {
            return UNKNOWN;
        }
        if (what != 0 && what != 1) {
            return OUTSIDE;
        }
        return (int) rows.foretell(days, book, what == 0 ? Rows.MOST : Rows.WAYS);
    }

    public int row(int book, int i) {
        if (!told.hasBook(book)) {
            return UNKNOWN;
        }
        if (i < 0) {
            return OUTSIDE;
        }
        return rows.readerOfFirstRow(days, book, i);
    }

    public int shortest(int book) {
        return told.hasBook(book) ? (int) rows.foretell(days, book, Rows.FEWEST) : UNKNOWN;
    }

    public int can(int book) {
        return told.hasBook(book) ? (int) rows.foretell(days, book, Rows.ANY_ROW) : UNKNOWN;
    }

    public int all(int book) {
        return told.hasBook(book) ? (int) rows.foretell(days, book, Rows.EVERY_LONGEST) : UNKNOWN;
    }

    public int fame(int book) {
        return told.hasBook(book) ? (int) rows.foretell(days, book, Rows.FAME) : UNKNOWN;
    }

    public long mean(int book, int part) {
        if (!told.hasBook(book)) {
            return UNKNOWN;
        }
        if (part != 0 && part != 1) {
            return OUTSIDE;
        }
        long above = rows.foretell(days, book, Rows.MEAN);
        return lowestTerms(above, rows.lotsBelow(), part);
    }

    public long odds(int book, int reader, int part) {
        if (!told.hasBook(book) || !told.hasReader(reader)) {
            return UNKNOWN;
        }
        if (part != 0 && part != 1) {
            return OUTSIDE;
        }
        if (hasBit(days.had[book], reader)) {
            return 1;
        }
        rows.asked = reader;
        long above = rows.foretell(days, book, Rows.ODDS);
        return lowestTerms(above, rows.lotsBelow(), part);
    }

    public int turns(int book, int what) {
        if (!told.hasBook(book)) {
            return UNKNOWN;
        }
        if (what != 0 && what != 1) {
            return OUTSIDE;
        }
        int wins = (int) rows.foretell(days, book, Rows.WIN);
        return what == 0 ? wins : rows.leastWinningChoice();
    }

    public int clubs(int k) {
        if (k < SMALLEST_CLUB || k > LARGEST_CLUB) {
            return OUTSIDE;
        }
        return rows.ringsOf(days.today, k);
    }

    public int meet(int one, int other) {
        if (!told.hasBook(one) || !told.hasBook(other) || one == other) {
            return UNKNOWN;
        }
        // Neither book hinders the other, so each one's places by day are all that counts.
        rows.findPlaces(days, one, placesOfOne);
        rows.findPlaces(days, other, placesOfOther);
        for (int namings = 0; namings < MOST_READERS; namings++) {
            if ((placesOfOne[namings] & placesOfOther[namings]) != 0) {
                return namings;
            }
        }
        return NONE;
    }

    // ---- slips

    public int slip(int one, int other) {
        if (!told.hasReader(one) || !told.hasReader(other) || one == other) {
            return UNKNOWN;
        }
        return slips.add(one, other) ? slips.size : FULL;
    }

    public int burn() {
        int were = slips.size;
        slips.size = 0;
        return were;
    }

    public int forged(int what) {
        if (what != 0 && what != 1) {
            return OUTSIDE;
        }
        int set = slips.forgedSet(told);
        return what == 0 ? Integer.bitCount(set) : set;
    }

    public int holder() {
        return slips.leastLastNamed(slips.forgedSet(told));
    }

    public int count(int what) {
        switch (what) {
            case 0: return told.readers;
            case 1: return told.books;
            case 2: return days.today;
            case 3: return told.feudPairs();
            case 4: return walledBooks();
            case 5: return slips.size;
            case 6: return namings();
            case 7: return past.size;
            case 8: return text.length;
            default: return OUTSIDE;
        }
    }

    // ---- helpers

    private static boolean hasBit(int set, int bit) {
        return (set >> bit & 1) == 1;
    }

    private static int leastOf(int set) {
        for (int bit = 0; bit < MOST_READERS; bit++) {
            if (hasBit(set, bit)) {
                return bit;
            }
        }
        return NONE;
    }

    /** above / below in lowest terms: what stands above (part 0), below (part 1); below is over 0. */
    private static long lowestTerms(long above, long below, int part) {
        long divisor = below;
        long rest = above;
        // The terms stay under 2^31, where Euclid's way needs under fifty steps.
        for (int step = 0; step < 100 && rest != 0; step++) {
            long next = divisor % rest;
            divisor = rest;
            rest = next;
        }
        if (divisor == 0) {
            return OUTSIDE;
        }
        return (part == 0 ? above : below) / divisor;
    }

    private int namableNow(int book) {
        return told.namable(days.holders[book], days.today) & ~days.had[book];
    }

    private int walledBooks() {
        int walled = 0;
        for (int book = 0; book < told.books; book++) {
            if (namableNow(book) == 0) {
                walled |= 1 << book;
            }
        }
        return walled;
    }

    private int booksHeldBy(int reader) {
        int held = 0;
        for (int book = 0; book < told.books; book++) {
            if (days.holders[book] == reader) {
                held |= 1 << book;
            }
        }
        return held;
    }

    private int booksHadBy(int reader) {
        int had = 0;
        for (int book = 0; book < told.books; book++) {
            if (hasBit(days.had[book], reader)) {
                had |= 1 << book;
            }
        }
        return had;
    }

    /** Each naming gives a book to one who has not had it, so those who have had it tell how many there were. */
    private int namings() {
        int namings = 0;
        for (int book = 0; book < told.books; book++) {
            namings += Integer.bitCount(days.had[book]) - 1;
        }
        return namings;
    }

    /** THE TEXT and the token in it that is looked at. */
    private static final class Text {
        private static final int OTHER = 0, SMALL = 1, DIGIT = 2;

        final char[] letters = new char[MOST_LETTERS];
        int length;
        int start;
        int end;

        boolean append(char letter) {
            if (length >= MOST_LETTERS) {
                return false;
            }
            letters[length] = letter;
            length++;
            return true;
        }

        void empty() {
            length = 0;
        }

        void goToFirstToken() {
            end = 0;
            goToNextToken();
        }

        void goToNextToken() {
            start = end;
            while (start < length && letters[start] == ' ') {
                start++;
            }
            end = start;
            if (start >= length) {
                return;
            }
            end++;
            int sort = sortOf(letters[start]);
            while (sort != OTHER && end < length && sortOf(letters[end]) == sort) {
                end++;
            }
        }

        boolean isAtEnd() {
            return start >= length;
        }

        boolean tokenIs(String word) {
            if (end - start != word.length()) {
                return false;
            }
            for (int i = 0; i < word.length(); i++) {
                if (letters[start + i] != word.charAt(i)) {
                    return false;
                }
            }
            return true;
        }

        /** The number that the token is; NONE, if it is no number or has over two digits. */
        int number() {
            int digits = end - start;
            if (digits < 1 || digits > 2 || sortOf(letters[start]) != DIGIT) {
                return NONE;
            }
            int number = 0;
            for (int i = start; i < end; i++) {
                number = number * 10 + (letters[i] - '0');
            }
            return number;
        }

        private static int sortOf(char letter) {
            if (letter >= 'a' && letter <= 'z') {
                return SMALL;
            }
            return letter >= '0' && letter <= '9' ? DIGIT : OTHER;
        }
    }

    /** What texts have told: readers and books. */
    private static final class Told {
        int readers;
        int books;
        final int[] kinds = new int[MOST_READERS];
        final int[] ranks = new int[MOST_READERS];
        final int[] feuds = new int[MOST_READERS];
        final int[] moves = new int[MOST_READERS];
        final int[] firsts = new int[MOST_BOOKS];

        boolean hasReader(int reader) {
            return reader >= 0 && reader < readers;
        }

        boolean hasBook(int book) {
            return book >= 0 && book < books;
        }

        void copyFrom(Told other) {
            readers = other.readers;
            books = other.books;
            System.arraycopy(other.kinds, 0, kinds, 0, MOST_READERS);
            System.arraycopy(other.ranks, 0, ranks, 0, MOST_READERS);
            System.arraycopy(other.feuds, 0, feuds, 0, MOST_READERS);
            System.arraycopy(other.moves, 0, moves, 0, MOST_READERS);
            System.arraycopy(other.firsts, 0, firsts, 0, MOST_BOOKS);
        }

        void clear() {
            readers = 0;
            books = 0;
        }

        void makePeace() {
            Arrays.fill(feuds, 0);
        }

        /** There is room for one: the caller has looked. */
        void addReader(int kind, int rank) {
            kinds[readers] = kind;
            ranks[readers] = rank;
            feuds[readers] = 0;
            moves[readers] = NEVER;
            readers++;
        }

        /** There is room for one: the caller has looked. */
        void addBook(int first) {
            firsts[books] = first;
            books++;
        }

        void addFeud(int one, int other) {
            feuds[one] |= 1 << other;
            feuds[other] |= 1 << one;
        }

        int feudPairs() {
            int ends = 0;
            for (int reader = 0; reader < readers; reader++) {
                ends += Integer.bitCount(feuds[reader]);
            }
            return ends / 2;
        }

        /** Whom one MAY NAME on a day, as if nobody had had the book. */
        int namable(int who, int onDay) {
            return liked(who) & stillHere(onDay);
        }

        /** Whom one would name, if nobody had moved away. */
        int liked(int who) {
            int liked = 0;
            for (int other = 0; other < readers; other++) {
                if (other != who && likes(who, other)) {
                    liked |= 1 << other;
                }
            }
            return liked;
        }

        int stillHere(int onDay) {
            int here = 0;
            for (int reader = 0; reader < readers; reader++) {
                if (moves[reader] == NEVER || moves[reader] > onDay) {
                    here |= 1 << reader;
                }
            }
            return here;
        }

        private boolean likes(int who, int other) {
            int kind = kinds[who];
            if (kind == BLIND) {
                return true;
            }
            if (hasBit(feuds[who], other)) {
                return false;
            }
            if (kind == FLATTERER) {
                return ranks[other] >= ranks[who];
            }
            return kind != SULKER || ranks[other] <= ranks[who];
        }
    }

    /** Reads THE TEXT, doing its clauses on a draft, to the first fault: a clause's bounds hang on those ahead. */
    private static final class Clauses {
        final Told draft = new Told();
        int done;
        private final Text text;

        Clauses(Text text) {
            this.text = text;
        }

        /** The place of the first fault, NONE if there is none: then the draft has all clauses done. */
        int firstFault(Told told) {
            draft.copyFrom(told);
            done = 0;
            text.goToFirstToken();
            for (int i = 0; i < MOST_CLAUSES; i++) {
                if (!doClause()) {
                    return text.start;
                }
                done++;
                if (text.isAtEnd()) {
                    return NONE;
                }
                // Behind the last clause that there is room for, no ; can stand either.
                if (!text.tokenIs(";") || done == MOST_CLAUSES) {
                    return text.start;
                }
                text.goToNextToken();
            }
            return text.start;
        }

        /** Stands on the token behind the clause then, or, if it answers false, on the fault. */
        private boolean doClause() {
            int kind = kindOfWord();
            if (kind != NONE) {
                return doReader(kind);
            }
            if (text.tokenIs("feud")) {
                return doFeud();
            }
            if (text.tokenIs("move")) {
                return doMove();
            }
            if (text.tokenIs("book")) {
                return doBook();
            }
            if (text.tokenIs("peace")) {
                draft.makePeace();
            } else if (text.tokenIs("library")) {
                draft.clear();
            } else {
                return false;
            }
            text.goToNextToken();
            return true;
        }

        private int kindOfWord() {
            if (text.tokenIs("plain")) {
                return PLAIN;
            }
            if (text.tokenIs("flatterer")) {
                return FLATTERER;
            }
            if (text.tokenIs("blind")) {
                return BLIND;
            }
            return text.tokenIs("sulker") ? SULKER : NONE;
        }

        private boolean doReader(int kind) {
            if (draft.readers >= MOST_READERS) {
                return false;
            }
            int rank = nextNumber(RANKS);
            if (rank == NONE) {
                return false;
            }
            draft.addReader(kind, rank);
            text.goToNextToken();
            return true;
        }

        private boolean doFeud() {
            int one = nextNumber(draft.readers);
            if (one == NONE) {
                return false;
            }
            int other = nextNumber(draft.readers);
            if (other == NONE || other == one) {
                return false;
            }
            draft.addFeud(one, other);
            text.goToNextToken();
            return true;
        }

        private boolean doMove() {
            int reader = nextNumber(draft.readers);
            if (reader == NONE) {
                return false;
            }
            int moving = nextNumber(MOVING_DAYS);
            if (moving == NONE) {
                return false;
            }
            draft.moves[reader] = moving;
            text.goToNextToken();
            return true;
        }

        private boolean doBook() {
            if (draft.books >= MOST_BOOKS) {
                return false;
            }
            int first = nextNumber(draft.readers);
            if (first == NONE) {
                return false;
            }
            draft.addBook(first);
            text.goToNextToken();
            return true;
        }

        /** The next token as a number below a bound, NONE if it is none such. */
        private int nextNumber(int bound) {
            text.goToNextToken();
            int number = text.number();
            return number < bound ? number : NONE;
        }
    }

    /** What namings and days change. */
    private static final class Days {
        int today;
        final int[] holders = new int[MOST_BOOKS];
        final int[] had = new int[MOST_BOOKS];
        /** The day of each one's last naming, from which its dust is counted. */
        final int[] lastNamed = new int[MOST_BOOKS];

        void beginAnew(Told told) {
            today = 0;
            for (int book = 0; book < told.books; book++) {
                holders[book] = told.firsts[book];
                had[book] = 1 << told.firsts[book];
                lastNamed[book] = 0;
            }
        }

        void copyFrom(Days other) {
            today = other.today;
            System.arraycopy(other.holders, 0, holders, 0, MOST_BOOKS);
            System.arraycopy(other.had, 0, had, 0, MOST_BOOKS);
            System.arraycopy(other.lastNamed, 0, lastNamed, 0, MOST_BOOKS);
        }

        void passOn(int book, int reader) {
            holders[book] = reader;
            had[book] |= 1 << reader;
            lastNamed[book] = today;
            today++;
        }
    }

    /** How it was ahead of the last namings and days: a ring, in which the oldest gives way. */
    private static final class Past {
        int size;
        private int next;
        private final Days[] ring = new Days[MOST_UNDONE];

        Past() {
            for (int i = 0; i < MOST_UNDONE; i++) {
                ring[i] = new Days();
            }
        }

        void forget() {
            size = 0;
        }

        void remember(Days days) {
            ring[next].copyFrom(days);
            next = (next + 1) % MOST_UNDONE;
            size = Math.min(size + 1, MOST_UNDONE);
        }

        /** There is something to take back: the caller has looked. */
        void takeBack(Days days) {
            next = (next + MOST_UNDONE - 1) % MOST_UNDONE;
            size--;
            days.copyFrom(ring[next]);
        }
    }

    /**
     * What is foretold. Where a book can yet go hangs only on who has had it and who holds it, as the day follows
     * from how many have: so every measure is found once for each such state, from the fullest set down.
     */
    private static final class Rows {
        static final int MOST = 0, WAYS = 1, FEWEST = 2, ANY_ROW = 3, EVERY_LONGEST = 4;
        static final int FAME = 5, MEAN = 6, ODDS = 7, WIN = 8;

        private static final int SETS = 1 << MOST_READERS;
        /**
         * By how many have not had the book: a number that every product of lots from there on divides,
         * the one ahead times the least common multiple of 1 .. that many.
         */
        private static final long[] LOTS = {1, 1, 2, 12, 144, 8640, 518400, 217728000};

        /** Whose ODDS are asked for. */
        int asked;
        private final Told told;
        private final int[] liked = new int[MOST_READERS];
        /** By namings from now: who has not moved away by then. */
        private final int[] hereAfter = new int[MOST_READERS];
        /** By the set of those who have had the book: who else is still here on the day when it comes to that. */
        private final int[] openBehind = new int[SETS];
        /** By the same set: who of them can hold the book then. */
        private final int[] holdersBySet = new int[SETS];
        /** By state: the longest row from there; and the measure that is asked for. */
        private final long[] most = new long[SETS * MOST_READERS];
        private final long[] worth = new long[SETS * MOST_READERS];
        private int hadNow;
        private int holderNow;

        Rows(Told told) {
            this.told = told;
        }

        /** A measure of the rows of a book from now; the book is there: the caller has looked. */
        long foretell(Days days, int book, int measure) {
            begin(days, book);
            if (measure == WAYS || measure == EVERY_LONGEST) {
                fill(MOST, most);
            }
            long[] table = measure == MOST ? most : worth;
            fill(measure, table);
            return table[stateOf(hadNow, holderNow)];
        }

        /** Behind foretell of a measure by lot: what stands below it. */
        long lotsBelow() {
            return lotsOf(unread(hadNow));
        }

        /** Behind foretell of WIN. */
        int leastWinningChoice() {
            int choices = choicesOf(hadNow, holderNow);
            for (int next = 0; next < told.readers; next++) {
                if (hasBit(choices, next) && worth[stateBehind(hadNow, next)] == 0) {
                    return next;
                }
            }
            return NONE;
        }

        /** Reader i, from 0 on, of the first longest row; NONE, if it has not so many. */
        int readerOfFirstRow(Days days, int book, int i) {
            if (i >= MOST_READERS) {
                return NONE;
            }
            begin(days, book);
            fill(MOST, most);
            int had = hadNow;
            int who = holderNow;
            for (int step = 0; step <= i; step++) {
                int next = leastOf(choicesOfLongest(had, who));
                if (next == NONE) {
                    return NONE;
                }
                had |= 1 << next;
                who = next;
            }
            return who;
        }

        /** By namings from now: with whom the book can be behind so many, by bits. */
        void findPlaces(Days days, int book, int[] places) {
            begin(days, book);
            Arrays.fill(places, 0);
            Arrays.fill(holdersBySet, 0);
            holdersBySet[hadNow] = 1 << holderNow;
            for (int had = hadNow; had <= everybody(); had++) {
                int namings = namingsTo(had);
                if (holdersBySet[had] != 0 && namings >= 0 && namings < places.length) {
                    places[namings] |= holdersBySet[had];
                    spreadFrom(had);
                }
            }
        }

        /** How many rings of k readers there are on a day. */
        int ringsOf(int today, int k) {
            findLiked();
            int here = told.stillHere(today);
            int rings = 0;
            // A ring is counted once: from its least reader.
            for (int least = 0; least < told.readers; least++) {
                rings += ringsThrough(liked, least, least, here, k - 1);
            }
            return rings;
        }

        /** How many ways lead from one over so many more of the free readers, all over the least, and back to it. */
        private static int ringsThrough(int[] liked, int least, int who, int free, int more) {
            int choices = liked[who] & free;
            if (more <= 0) {
                return hasBit(choices, least) ? 1 : 0;
            }
            int rings = 0;
            for (int next = least + 1; next < liked.length; next++) {
                if (hasBit(choices, next)) {
                    rings += ringsThrough(liked, least, next, free & ~(1 << next), more - 1);
                }
            }
            return rings;
        }

        private void begin(Days days, int book) {
            hadNow = days.had[book];
            holderNow = days.holders[book];
            findLiked();
            for (int namings = 0; namings < MOST_READERS; namings++) {
                hereAfter[namings] = told.stillHere(days.today + namings);
            }
            for (int had = hadNow; had <= everybody(); had++) {
                int namings = namingsTo(had);
                boolean comes = (had & hadNow) == hadNow && namings < MOST_READERS;
                openBehind[had] = comes ? hereAfter[namings] & ~had : 0;
            }
        }

        private void findLiked() {
            for (int reader = 0; reader < told.readers; reader++) {
                liked[reader] = told.liked(reader);
            }
        }

        private void spreadFrom(int had) {
            int choices = 0;
            for (int who = 0; who < told.readers; who++) {
                if (hasBit(holdersBySet[had], who)) {
                    choices |= choicesOf(had, who);
                }
            }
            for (int next = 0; next < told.readers; next++) {
                if (hasBit(choices, next)) {
                    holdersBySet[had | 1 << next] |= 1 << next;
                }
            }
        }

        private void fill(int measure, long[] table) {
            for (int had = everybody(); had >= hadNow; had--) {
                if ((had & hadNow) != hadNow) {
                    continue;
                }
                for (int who = 0; who < told.readers; who++) {
                    if (hasBit(had, who)) {
                        table[stateOf(had, who)] = measureOf(measure, table, had, who);
                    }
                }
            }
        }

        /** Those behind it, of fuller sets, stand in the table. */
        private long measureOf(int measure, long[] table, int had, int who) {
            boolean longestOnly = measure == WAYS || measure == EVERY_LONGEST;
            int choices = longestOnly ? choicesOfLongest(had, who) : choicesOf(had, who);
            if (choices == 0) {
                return measure == WAYS ? 1 : 0;
            }
            // No measure is below 0, so NONE is free to mean that nothing is joined yet.
            long joined = NONE;
            for (int next = 0; next < told.readers; next++) {
                if (hasBit(choices, next)) {
                    long one = throughOne(measure, table[stateBehind(had, next)], had, next);
                    joined = joined == NONE ? one : join(measure, joined, one);
                }
            }
            boolean byLot = measure == MEAN || measure == ODDS;
            return byLot ? joined * shareOfLot(had, Integer.bitCount(choices)) : joined;
        }

        /** The measure of the rows that begin with one who is named, by that of what is behind him. */
        private long throughOne(int measure, long behind, int had, int next) {
            switch (measure) {
                case WAYS: return behind;
                case ANY_ROW: return behind | 1L << next;
                case EVERY_LONGEST: return behind | 1L << next;
                case FAME: return behind + told.ranks[next];
                case MEAN: return behind + lotsOf(unread(had) - 1);
                case ODDS: return next == asked ? lotsOf(unread(had) - 1) : behind;
                case WIN: return 1 - behind;
                default: return behind + 1;
            }
        }

        private static long join(int measure, long joined, long one) {
            switch (measure) {
                case WAYS: return joined + one;
                case MEAN: return joined + one;
                case ODDS: return joined + one;
                case FEWEST: return Math.min(joined, one);
                case ANY_ROW: return joined | one;
                case EVERY_LONGEST: return joined & one;
                default: return Math.max(joined, one);
            }
        }

        /** What one of so many lots weighs: it is told by the LOTS of one reader fewer than is asked for here. */
        private long shareOfLot(int had, int choices) {
            long below = lotsOf(unread(had) - 1) * choices;
            return below == 0 ? 0 : lotsOf(unread(had)) / below;
        }

        private static long lotsOf(int unread) {
            return unread >= 0 && unread < LOTS.length ? LOTS[unread] : 1;
        }

        private int choicesOf(int had, int who) {
            return liked[who] & openBehind[had];
        }

        /** Behind fill of MOST: whom he names in a longest row. */
        private int choicesOfLongest(int had, int who) {
            int choices = choicesOf(had, who);
            long longest = most[stateOf(had, who)];
            for (int next = 0; next < told.readers; next++) {
                if (hasBit(choices, next) && most[stateBehind(had, next)] + 1 != longest) {
                    choices &= ~(1 << next);
                }
            }
            return choices;
        }

        private static int stateOf(int had, int who) {
            return had * MOST_READERS + who;
        }

        private static int stateBehind(int had, int next) {
            return stateOf(had | 1 << next, next);
        }

        private int everybody() {
            return (1 << told.readers) - 1;
        }

        private int namingsTo(int had) {
            return Integer.bitCount(had) - Integer.bitCount(hadNow);
        }

        private int unread(int had) {
            return told.readers - Integer.bitCount(had);
        }
    }

    /** Slips of who named whom of the lost book. */
    private static final class Slips {
        int size;
        private final int[] namers = new int[MOST_SLIPS];
        private final int[] named = new int[MOST_SLIPS];
        private final int[] nextOf = new int[MOST_READERS];

        boolean add(int one, int other) {
            if (size >= MOST_SLIPS) {
                return false;
            }
            namers[size] = one;
            named[size] = other;
            size++;
            return true;
        }

        /** The fewest slips without which the others fit in a row, of several sets the least, by bits. */
        int forgedSet(Told told) {
            int mustGo = forbidden(told);
            int best = (1 << size) - 1;
            for (int set = 0; set < 1 << size; set++) {
                boolean fewer = Integer.bitCount(set) < Integer.bitCount(best);
                if (fewer && (set & mustGo) == mustGo && fitWithout(set)) {
                    best = set;
                }
            }
            return best;
        }

        int leastLastNamed(int without) {
            int naming = 0;
            int ofNamed = 0;
            for (int i = 0; i < size; i++) {
                if (!hasBit(without, i)) {
                    naming |= 1 << namers[i];
                    ofNamed |= 1 << named[i];
                }
            }
            return leastOf(ofNamed & ~naming);
        }

        private int forbidden(Told told) {
            int set = 0;
            for (int i = 0; i < size; i++) {
                if (!hasBit(told.namable(namers[i], 0), named[i])) {
                    set |= 1 << i;
                }
            }
            return set;
        }

        private boolean fitWithout(int set) {
            Arrays.fill(nextOf, NONE);
            int ofNamed = 0;
            for (int i = 0; i < size; i++) {
                if (hasBit(set, i)) {
                    continue;
                }
                if (nextOf[namers[i]] != NONE || hasBit(ofNamed, named[i])) {
                    return false;
                }
                nextOf[namers[i]] = named[i];
                ofNamed |= 1 << named[i];
            }
            return !hasRing();
        }

        /** Who can be followed for more steps than there are readers goes in a ring. */
        private boolean hasRing() {
            for (int first = 0; first < MOST_READERS; first++) {
                int at = first;
                for (int step = 0; step < MOST_READERS && at != NONE; step++) {
                    at = nextOf[at];
                }
                if (at != NONE) {
                    return true;
                }
            }
            return false;
        }
    }
}
