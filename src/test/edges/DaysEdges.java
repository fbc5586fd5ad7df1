/** Who may name whom, namings day by day: their terms, and the promises 6 to 14. */
final class DaysEdges extends Edge {
    private static final String EIGHT = times(8, "plain 1");

    private DaysEdges() { }

    static void test() {
        callsOfAnObject();
        mayName();
        blindOnes();
        ranks();
        naming();
        whoMovedNamesYet();
        dayWithoutNaming();
        walled();
        dust();
        kindsOverOneAnother();
        askedOfReaders();
        askedOfBooks();
        takenAsAKind();
        askedWhoMay();
        named();
        lastDay();
        undone();
        undoneByTurns();
        kept();
        goneBackTo();
        keptSinceTheLastText();
    }

    private static void callsOfAnObject() {
        says(TERMS, "An object is used for at most 512 calls after it has been made; what later calls answer is free.");
        NamedNext x = new NamedNext();
        for (int day = 1; day <= 512; day++) {
            due("the call " + day, x.day(), day);
        }
        NamedNext y = new NamedNext();
        for (int call = 1; call <= 512; call++) {
            due("the call " + call, y.write(' '), call <= 160 ? call : FULL);
        }
    }

    private static void mayName() {
        says(TERMS, "One MAY NAME another one for a BOOK on a DAY: who has not had it, does not MOVE away on that DAY or "
            + "sooner, and is not in FEUD with him");
        NamedNext x = told("plain 5;plain 0;plain 9;plain 5;plain 5;feud 0 3;feud 4 2;move 2 2;book 0;book 1");
        due("may(0, 0): himself", x.may(0, 0), 0);
        due("may(0, 1)", x.may(0, 1), 1);
        due("may(0, 2)", x.may(0, 2), 1);
        due("may(0, 3): a feud", x.may(0, 3), 0);
        due("may(0, 4)", x.may(0, 4), 1);
        x.name(0, 4);
        due("may(0, 0): he has had it", x.may(0, 0), 0);
        due("may(0, 4): he has it", x.may(0, 4), 0);
        due("may(0, 3): no feud of this one's", x.may(0, 3), 1);
        due("may(0, 2): a feud, told the other way about", x.may(0, 2), 0);
        due("may(1, 4): he has not had this one", x.may(1, 4), 1);
        due("may(1, 2) on day 1, the day before he moves", x.may(1, 2), 1);
        x.day();
        due("may(1, 2) on day 2, when he moves", x.may(1, 2), 0);
        due("may(1, 3) on day 2", x.may(1, 3), 1);
        x.day();
        due("may(1, 2) on day 3, when he has moved", x.may(1, 2), 0);
        due("name(1, 2) on day 3", x.name(1, 2), NOT);
    }

    private static void blindOnes() {
        says(TERMS, "(a BLIND one NAMES also whom he is in FEUD with)");
        NamedNext x = told("blind 5;plain 5;plain 0;plain 9;feud 0 1;feud 0 2;feud 0 3;move 3 1;book 0;book 1");
        due("may(0, 1)", x.may(0, 1), 1);
        due("may(0, 2), of a rank below", x.may(0, 2), 1);
        due("may(0, 3), of a rank above", x.may(0, 3), 1);
        due("may(1, 0): the other one is not blind", x.may(1, 0), 0);
        due("may(0, 0): nor does he name himself", x.may(0, 0), 0);
        due("name(0, 1)", x.name(0, 1), 2);
        due("name(1, 0)", x.name(1, 0), NOT);
        x.undo();
        x.day();
        due("may(0, 3): nor who has moved", x.may(0, 3), 0);
        // Two blind ones in feud name one another; a flatterer and a sulker do not, whatever their ranks.
        NamedNext y = told("blind 1;blind 1;flatterer 1;sulker 1;feud 0 1;feud 2 3;feud 2 0;feud 3 0");
        due("as(0, 3)", y.as(0, 3), 0b1110);
        due("as(1, 3)", y.as(1, 3), 0b1101);
        due("as(2, 2)", y.as(2, 2), 0b0010);
        due("as(3, 4)", y.as(3, 4), 0b0010);
    }

    private static void ranks() {
        says(TERMS, "a FLATTERER names nobody of a RANK below his; a SULKER nobody of a RANK above his.");
        NamedNext x = told("flatterer 5;sulker 5;plain 4;plain 5;plain 6;plain 0;plain 9;blind 5",
            "book 0;book 1;book 3;book 7");
        int[] ranksBelow = {2, 5};
        int[] ranksAlike = {3};
        int[] ranksAbove = {4, 6};
        for (int reader : ranksBelow) {
            due("a flatterer may name one below, " + reader, x.may(0, reader), 0);
            due("a sulker may name one below, " + reader, x.may(1, reader), 1);
            due("a plain one may name one below, " + reader, x.may(2, reader), 1);
            due("a blind one may name one below, " + reader, x.may(3, reader), 1);
        }
        for (int reader : ranksAlike) {
            due("a flatterer may name one alike", x.may(0, reader), 1);
            due("a sulker may name one alike", x.may(1, reader), 1);
            due("a blind one may name one alike", x.may(3, reader), 1);
        }
        for (int reader : ranksAbove) {
            due("a flatterer may name one above, " + reader, x.may(0, reader), 1);
            due("a sulker may name one above, " + reader, x.may(1, reader), 0);
            due("a plain one may name one above, " + reader, x.may(2, reader), 1);
            due("a blind one may name one above, " + reader, x.may(3, reader), 1);
        }
        due("as(0, 2), whole", x.as(0, 2), 0b11011010);
        due("as(1, 4), whole", x.as(1, 4), 0b10101101);
        // At the ends of the ranks: nobody is below 0, nobody above 9.
        NamedNext y = told("flatterer 0;sulker 9;flatterer 9;sulker 0;plain 0;plain 9");
        due("as(0, 2) of rank 0", y.as(0, 2), 0b111110);
        due("as(1, 4) of rank 9", y.as(1, 4), 0b111101);
        due("as(2, 2) of rank 9", y.as(2, 2), 0b100010);
        due("as(3, 4) of rank 0", y.as(3, 4), 0b010001);
    }

    private static void naming() {
        says(TERMS, "Who holds a BOOK NAMES one: he has it then, holds it; the next DAY comes.");
        NamedNext x = told(EIGHT, "book 0;book 0");
        due("name(0, 7)", x.name(0, 7), 2);
        due("who holds it", x.book(0, 0), 7);
        due("who has had it", x.book(0, 1), 129);
        due("the day", x.count(2), 1);
        due("who holds the other one", x.book(1, 0), 0);
        due("who has had the other one", x.book(1, 1), 1);
        for (int reader = 1; reader <= 6; reader++) {
            due("name(0, " + reader + ")", x.name(0, reader), reader + 2);
            due("the day behind it", x.count(2), reader + 1);
        }
        due("who has had it when all have", x.book(0, 1), 255);
        due("walled, as all have had it", x.book(0, 3), 1);
        due("namings", x.count(6), 7);
        for (int reader = 0; reader < 8; reader++) {
            due("name(0, " + reader + ") when all have had it", x.name(0, reader), NOT);
        }
    }

    private static void whoMovedNamesYet() {
        says(TERMS, "(Who MOVED away and holds one names yet.)");
        NamedNext x = told("plain 1;plain 1;plain 1;move 0 0;move 1 1;book 0");
        due("may(0, 1): who moves today names", x.may(0, 1), 1);
        due("name(0, 1)", x.name(0, 1), 2);
        due("who holds it, and moves today", x.book(0, 0), 1);
        x.day();
        due("may(0, 2): who moved yesterday names", x.may(0, 2), 1);
        due("walled", x.book(0, 3), 0);
        due("longest(0, 0)", x.longest(0, 0), 1);
        due("name(0, 2)", x.name(0, 2), 3);
    }

    private static void dayWithoutNaming() {
        says(TERMS, "A DAY can go by without a NAMING.");
        NamedNext x = told("plain 1;plain 1;book 0");
        due("day()", x.day(), 1);
        due("the day", x.count(2), 1);
        due("namings", x.count(6), 0);
        due("who holds it", x.book(0, 0), 0);
        due("who has had it", x.book(0, 1), 1);
        due("day() of an empty library", new NamedNext().day(), 1);
    }

    private static void walled() {
        says(TERMS, "A BOOK is WALLED on a DAY, if who holds it MAY NAME nobody on it.");
        NamedNext alone = told("plain 1;book 0");
        due("alone", alone.book(0, 3), 1);
        NamedNext x = told("plain 1;plain 1;plain 1;move 1 1;move 2 2;book 0");
        due("on day 0, when two can be named", x.book(0, 3), 0);
        x.day();
        due("on day 1, when one can be named", x.book(0, 3), 0);
        x.day();
        due("on day 2, when nobody can", x.book(0, 3), 1);
        due("count(4) on day 2", x.count(4), 1);
        x.undo();
        due("on day 1 again", x.book(0, 3), 0);
        due("count(4) on day 1 again", x.count(4), 0);
        NamedNext feud = told("plain 1;plain 1;plain 1;feud 0 1;feud 0 2;book 0;book 1");
        due("by feuds", feud.book(0, 3), 1);
        due("not by feuds of others", feud.book(1, 3), 0);
        NamedNext rank = told("flatterer 2;sulker 0;plain 1;book 0;book 1;book 2");
        due("a flatterer over all", rank.book(0, 3), 1);
        due("a sulker under all", rank.book(1, 3), 1);
        due("a plain one in the midst", rank.book(2, 3), 0);
    }

    private static void dust() {
        says(TERMS, "DUST of a BOOK: DAYS since it was last NAMED on (since DAY 0).");
        NamedNext x = told("plain 1;plain 1;plain 1;book 0;book 1");
        due("on day 0", x.book(0, 2), 0);
        x.day();
        due("on day 1, named on by nobody yet", x.book(0, 2), 1);
        x.day();
        due("on day 2, named on by nobody yet", x.book(0, 2), 2);
        x.name(0, 1);
        due("the day behind a naming", x.book(0, 2), 1);
        due("of the other one", x.book(1, 2), 3);
        x.name(1, 0);
        due("two days behind a naming", x.book(0, 2), 2);
        due("of the other one, the day behind its naming", x.book(1, 2), 1);
        x.day();
        due("three days behind a naming", x.book(0, 2), 3);
        x.undo();
        x.undo();
        due("of the other one, when its naming is undone", x.book(1, 2), 3);
        x.undo();
        due("when its naming is undone", x.book(0, 2), 2);
        due("name(0, 0), refused", x.name(0, 0), NOT);
        due("behind a naming that was refused", x.book(0, 2), 2);
        NamedNext old = told("plain 1;book 0");
        days(old, 400);
        due("on day 400", old.book(0, 2), 400);
    }

    private static void kindsOverOneAnother() {
        says(TERMS, "KINDS are over one another: READER (0); PLAIN (1) under it; FLATTERER (2) is PLAIN; BLIND (3) is a "
            + "READER; SULKER (4) is a FLATTERER (but asks for RANKS as told).");
        NamedNext x = told("plain 5;flatterer 5;blind 5;sulker 5;plain 4;plain 6");
        int[] own = {0b111110, 0b101101, 0b111011, 0b010111};
        boolean[][] is = {
            {true, true, false, false, false},
            {true, true, true, false, false},
            {true, false, false, true, false},
            {true, true, true, false, true},
        };
        for (int reader = 0; reader < 4; reader++) {
            for (int kind = 0; kind <= 4; kind++) {
                due("as(" + reader + ", " + kind + ")", x.as(reader, kind), is[reader][kind] ? own[reader] : NOT);
            }
        }
    }

    /** Eight readers, three books, on day 3, with slips and something kept, to undo and written. */
    private static NamedNext busy() {
        NamedNext x = told("plain 4;flatterer 2;blind 9;sulker 6;plain 0;plain 7;plain 3;plain 5",
            "feud 0 1;feud 2 3;feud 5 0;move 4 5;move 6 2;book 0;book 3;book 7");
        x.name(0, 2);
        x.keep(0);
        x.day();
        x.slip(0, 2);
        x.slip(2, 7);
        x.keep(1);
        x.name(1, 1);
        write(x, "move 0 3");
        return x;
    }

    private static void askedOfReaders() {
        says(6, "Of a READER: KIND (what 0), RANK (1), FEUDS, by bits (2), the DAY on which he MOVES (3), BOOKS that he "
            + "holds, by bits (4), has had (5). UNKNOWN; OUTSIDE.");
        NamedNext x = told("plain 0;flatterer 9;blind 5;sulker 7;feud 0 2;feud 3 0;move 1 98;move 2 0",
            "book 0;book 3;book 3;book 3");
        long[][] want = {
            {0, 0, 0b1100, 99, 0b0001, 0b0001},
            {1, 9, 0, 98, 0, 0},
            {2, 5, 1, 0, 0, 0},
            {3, 7, 1, 99, 0b1110, 0b1110},
        };
        ask(x, want);
        due("name(3, 2)", x.name(3, 2), NOT);
        due("name(0, 1)", x.name(0, 1), 2);
        want[0][4] = 0;
        want[1][4] = 1;
        want[1][5] = 1;
        ask(x, want);
        for (int what : new int[] {-1, 6, 7, LEAST, GREATEST}) {
            refused(DaysEdges::busy, "reader(0, " + what + ")", y -> y.reader(0, what), OUTSIDE);
            refused(DaysEdges::busy, "reader(8, " + what + ")", y -> y.reader(8, what), UNKNOWN);
        }
        for (int reader : new int[] {-1, 8, LEAST, GREATEST}) {
            refused(DaysEdges::busy, "reader(" + reader + ", 0)", y -> y.reader(reader, 0), UNKNOWN);
        }
        due("reader(3, 0) of four", x.reader(3, 0), 3);
        due("reader(4, 0) of four", x.reader(4, 0), UNKNOWN);
    }

    private static void ask(NamedNext x, long[][] want) {
        for (int reader = 0; reader < want.length; reader++) {
            for (int what = 0; what <= 5; what++) {
                due("reader(" + reader + ", " + what + ")", x.reader(reader, what), want[reader][what]);
            }
        }
    }

    private static void askedOfBooks() {
        says(7, "Of a BOOK: who holds it (what 0), who has had it, by bits (1), DUST (2), 1 WALLED on this DAY, 0 (3), its "
            + "first READER (4). UNKNOWN; OUTSIDE.");
        NamedNext x = told("plain 1;plain 1;plain 1;feud 1 2;book 0;book 2;book 2;book 1");
        long[][] want = {{0, 1, 0, 0, 0}, {2, 4, 0, 0, 2}, {2, 4, 0, 0, 2}, {1, 2, 0, 0, 1}};
        askBooks(x, want);
        x.day();
        x.name(0, 2);
        want = new long[][] {{2, 0b101, 1, 1, 0}, {2, 4, 2, 0, 2}, {2, 4, 2, 0, 2}, {1, 2, 2, 0, 1}};
        askBooks(x, want);
        for (int what : new int[] {-1, 5, 6, LEAST, GREATEST}) {
            refused(DaysEdges::busy, "book(0, " + what + ")", y -> y.book(0, what), OUTSIDE);
            refused(DaysEdges::busy, "book(3, " + what + ")", y -> y.book(3, what), UNKNOWN);
        }
        for (int book : new int[] {-1, 3, 4, LEAST, GREATEST}) {
            refused(DaysEdges::busy, "book(" + book + ", 0)", y -> y.book(book, 0), UNKNOWN);
        }
        due("book(4, 0) of four", x.book(4, 0), UNKNOWN);
    }

    private static void askBooks(NamedNext x, long[][] want) {
        for (int book = 0; book < want.length; book++) {
            for (int what = 0; what <= 4; what++) {
                due("book(" + book + ", " + what + ")", x.book(book, what), want[book][what]);
            }
        }
    }

    private static void takenAsAKind() {
        says(8, "A READER taken as a KIND (0 .. 4, as they are over one another): whom he MAY NAME on this DAY, as if "
            + "nobody had had it, by bits. UNKNOWN; OUTSIDE; NOT: he is none such.");
        NamedNext x = told("plain 1;plain 1;plain 1;plain 1;feud 0 3;move 1 1;book 0;book 2");
        due("as(0, 0) on day 0", x.as(0, 0), 0b0110);
        due("as(0, 1) on day 0", x.as(0, 1), 0b0110);
        x.name(0, 2);
        due("as(0, 0) on day 1, when 1 moves: 2 is named again", x.as(0, 0), 0b0100);
        due("as(2, 0): 0, who began, is named", x.as(2, 0), 0b1001);
        due("as(1, 0): who moved names", x.as(1, 0), 0b1101);
        due("as(0, 0) of one who is alone", told("plain 1").as(0, 0), 0);
        due("as(0, 3)", x.as(0, 3), NOT);
        for (int kind : new int[] {-1, 5, LEAST, GREATEST}) {
            refused(DaysEdges::busy, "as(0, " + kind + ")", y -> y.as(0, kind), OUTSIDE);
            refused(DaysEdges::busy, "as(8, " + kind + ")", y -> y.as(8, kind), UNKNOWN);
        }
        for (int reader : new int[] {-1, 8, LEAST, GREATEST}) {
            refused(DaysEdges::busy, "as(" + reader + ", 0)", y -> y.as(reader, 0), UNKNOWN);
        }
        refused(DaysEdges::busy, "as(0, 2)", y -> y.as(0, 2), NOT);
        refused(DaysEdges::busy, "as(2, 1)", y -> y.as(2, 1), NOT);
        refused(DaysEdges::busy, "as(1, 4)", y -> y.as(1, 4), NOT);
    }

    private static void askedWhoMay() {
        says(9, "1 who holds a BOOK MAY NAME one on this DAY, 0. UNKNOWN.");
        NamedNext x = told("plain 1;plain 1;plain 1;move 1 1;feud 0 2;book 0");
        due("may(0, 1)", x.may(0, 1), 1);
        due("may(0, 2)", x.may(0, 2), 0);
        due("may(0, 0)", x.may(0, 0), 0);
        x.day();
        due("may(0, 1) when he has moved", x.may(0, 1), 0);
        for (int one : new int[] {-1, 8, LEAST, GREATEST}) {
            refused(DaysEdges::busy, "may(0, " + one + ")", y -> y.may(0, one), UNKNOWN);
            refused(DaysEdges::busy, "may(" + one + ", 0)", y -> y.may(one, 0), UNKNOWN);
        }
        refused(DaysEdges::busy, "may(3, 0)", y -> y.may(3, 0), UNKNOWN);
        due("may(2, 7): of the last of three", busy().may(2, 7), 0);
    }

    private static void named() {
        says(10, "He is NAMED: how many have had it. UNKNOWN; NOT: he may not be; FULL: it is DAY 999.");
        NamedNext x = busy();
        due("name(2, 0)", x.name(2, 0), 2);
        due("name(2, 3)", x.name(2, 3), 3);
        due("name(0, 5), of another book", x.name(0, 5), 3);
        for (int one : new int[] {-1, 8, LEAST, GREATEST}) {
            refused(DaysEdges::busy, "name(0, " + one + ")", y -> y.name(0, one), UNKNOWN);
            refused(DaysEdges::busy, "name(" + one + ", 0)", y -> y.name(one, 0), UNKNOWN);
        }
        refused(DaysEdges::busy, "name(3, 0)", y -> y.name(3, 0), UNKNOWN);
        refused(DaysEdges::busy, "name(0, 0): he has had it", y -> y.name(0, 0), NOT);
        refused(DaysEdges::busy, "name(0, 2): he has it", y -> y.name(0, 2), NOT);
        refused(DaysEdges::busy, "name(0, 6): he has moved", y -> y.name(0, 6), NOT);
        refused(DaysEdges::busy, "name(1, 0): a feud", y -> y.name(1, 0), NOT);
        refused(DaysEdges::busy, "name(1, 4): a rank below", y -> y.name(1, 4), NOT);
        for (int day = 998; day <= 999; day++) {
            NamedNext late = onDay(day);
            due("name(0, 1) on day " + day, late.name(0, 1), day < 999 ? 2 : FULL);
            due("the day behind it", late.count(2), 999);
            due("who holds it", late.book(0, 0), day < 999 ? 1 : 0);
        }
        refused(() -> onDay(999), "name(0, 1) on day 999", y -> y.name(0, 1), FULL);
        refused(() -> onDay(999), "name(0, 0) on day 999", y -> y.name(0, 0), NOT);
        refused(() -> onDay(999), "name(0, 2) on day 999", y -> y.name(0, 2), NOT);
        refused(() -> onDay(999), "name(0, 4) on day 999", y -> y.name(0, 4), UNKNOWN);
        refused(() -> onDay(999), "name(1, 1) on day 999", y -> y.name(1, 1), UNKNOWN);
    }

    private static NamedNext onDay(int day) {
        NamedNext x = told("plain 1;plain 1;plain 1;plain 1;feud 0 2;move 3 98;book 0");
        days(x, day);
        return x;
    }

    private static void lastDay() {
        says(11, "A DAY goes by: the next one. FULL: it is DAY 999.");
        NamedNext x = onDay(997);
        due("day() on day 997", x.day(), 998);
        due("day() on day 998", x.day(), 999);
        due("day() on day 999", x.day(), FULL);
        due("the day behind it", x.count(2), 999);
        refused(() -> onDay(999), "day() on day 999", NamedNext::day, FULL);
        due("undo() on day 999", x.undo(), 7);
        due("day() on day 998 again", x.day(), 999);
        // What is asked and foretold on the last day is as on any other one.
        due("dust on day 999", x.book(0, 2), 999);
        due("may(0, 1) on day 999", x.may(0, 1), 1);
        due("longest(0, 0) on day 999", x.longest(0, 0), 2);
        due("keep(0) on day 999", x.keep(0), 999);
        due("back(0) on day 999", x.back(0), 999);
    }

    private static void undone() {
        says(12, "The latest name(), day() is undone (the last 8 can be): how many can be undone yet. NOT: none.");
        refused(() -> told(EIGHT, "book 0"), "undo() of nothing", NamedNext::undo, NOT);
        refused(NamedNext::new, "undo() of nothing in an empty library", NamedNext::undo, NOT);
        for (int acts = 1; acts <= 10; acts++) {
            NamedNext x = told(EIGHT, "book 0");
            String[] was = new String[acts + 1];
            was[0] = withoutUndo(x);
            for (int act = 1; act <= acts; act++) {
                act(x, act);
                was[act] = withoutUndo(x);
            }
            int most = Math.min(acts, 8);
            due("what can be undone of " + acts, x.count(7), most);
            for (int left = most - 1; left >= 0; left--) {
                due("undo() of " + acts, x.undo(), left);
                due("count(7) behind it", x.count(7), left);
                must("it is as before", withoutUndo(x).equals(was[acts - most + left]));
            }
            due("undo() behind all of " + acts, x.undo(), NOT);
            must("it is as before when no more can be undone", withoutUndo(x).equals(was[acts - most]));
        }
    }

    /** By turns a day without a naming and a naming. */
    private static void act(NamedNext x, int act) {
        if (act % 2 == 0) {
            due("name(0, " + act / 2 + ")", x.name(0, act / 2), act / 2 + 1);
        } else {
            x.day();
        }
    }

    private static String withoutUndo(NamedNext x) {
        StringBuilder seen = new StringBuilder();
        for (int what = 0; what <= 4; what++) {
            seen.append(x.book(0, what)).append(' ').append(x.count(what)).append(' ');
        }
        return seen.append(x.count(6)).toString();
    }

    private static void undoneByTurns() {
        says(12, "(the last 8 can be)");
        NamedNext x = told("plain 1;book 0");
        // Round and round: no way of holding the last eight may lose its place.
        int day = 0;
        int held = 0;
        for (int round = 1; round <= 12; round++) {
            for (int i = 0; i < round; i++) {
                day++;
                held = Math.min(held + 1, 8);
                due("day()", x.day(), day);
                due("count(7)", x.count(7), held);
            }
            for (int i = 0; i < round / 2 && held > 0; i++) {
                day--;
                held--;
                due("undo()", x.undo(), held);
                due("the day", x.count(2), day);
            }
        }
        // Only what was done counts: not what is refused, asked, kept, written or slipped in.
        NamedNext y = told(EIGHT, "book 0");
        y.name(0, 1);
        y.name(0, 1);
        y.name(0, 9);
        y.may(0, 2);
        y.keep(0);
        y.slip(0, 1);
        y.write('p');
        y.burn();
        y.erase();
        y.longest(0, 0);
        due("count(7)", y.count(7), 1);
        due("undo()", y.undo(), 0);
        due("who holds it", y.book(0, 0), 0);
        due("undo() of an undo()", y.undo(), NOT);
        due("day() behind it", y.day(), 1);
        due("undo() of the latest", y.undo(), 0);
        due("who holds it", y.book(0, 0), 0);
    }

    private static void kept() {
        says(13, "All as it is (but SLIPS, what can be undone) is kept (k 0, 1): the DAY. UNKNOWN: no such k.");
        for (int k : new int[] {-1, 2, 3, LEAST, GREATEST}) {
            refused(DaysEdges::busy, "keep(" + k + ")", y -> y.keep(k), UNKNOWN);
        }
        for (int k = 0; k <= 1; k++) {
            NamedNext x = busy();
            String before = look(x);
            due("keep(" + k + ")", x.keep(k), 3);
            must("keep(" + k + ") changes nothing that can be asked for", before.equals(look(x)));
            due("what can be undone behind it", x.count(7), 3);
            due("undo() behind it", x.undo(), 2);
            x.burn();
            x.slip(4, 5);
            x.name(2, 1);
            x.write(' ');
            due("back(" + k + ")", x.back(k), 3);
            // It is the library that is kept; what is being written of it goes on.
            due("letters of the text", x.count(8), 9);
            due("who holds book 1", x.book(1, 0), 1);
            due("who has had book 2", x.book(2, 1), 128);
            due("dust of book 0", x.book(0, 2), 3);
            due("namings", x.count(6), 2);
            due("slips, which are not kept", x.count(5), 1);
            due("holder(), by slips that are not kept", x.holder(), 5);
            due("what can be undone, which is not kept", x.count(7), 0);
        }
        due("keep(0) of an empty library", new NamedNext().keep(0), 0);
        NamedNext y = busy();
        y.keep(0);
        y.keep(0);
        y.day();
        due("keep(0) once more", y.keep(0), 4);
        due("back(0) to the later one", y.back(0), 4);
        due("back(1), the other one", y.back(1), 2);
    }

    private static void goneBackTo() {
        says(14, "It is as it was kept, nothing can be undone: the DAY.");
        NamedNext x = busy();
        due("back(0)", x.back(0), 1);
        due("the day", x.count(2), 1);
        due("what can be undone", x.count(7), 0);
        due("undo()", x.undo(), NOT);
        due("who holds book 0", x.book(0, 0), 2);
        due("who holds book 1", x.book(1, 0), 3);
        due("namings", x.count(6), 1);
        due("back(1)", x.back(1), 2);
        due("back(1) once more", x.back(1), 2);
        due("dust of book 0", x.book(0, 2), 2);
        due("name(0, 3) from there", x.name(0, 3), 3);
        due("what can be undone from there", x.count(7), 1);
        due("undo() from there", x.undo(), 0);
        must("undone it is as it was kept", x.book(0, 0) == 2 && x.count(2) == 2);
        due("back(0) once more", x.back(0), 1);
        due("the day", x.count(2), 1);
        // Readers and books are as the last text told them.
        due("readers", x.count(0), 8);
        due("books", x.count(1), 3);
    }

    private static void keptSinceTheLastText() {
        says(14, "UNKNOWN; NOT: nothing was kept since the last text.");
        for (int k : new int[] {-1, 2, 3, LEAST, GREATEST}) {
            refused(DaysEdges::busy, "back(" + k + ")", y -> y.back(k), UNKNOWN);
        }
        for (int k = 0; k <= 1; k++) {
            int slot = k;
            refused(NamedNext::new, "back(" + k + ") of a new library", y -> y.back(slot), NOT);
            refused(() -> keptOnly(1 - slot), "back(" + k + ") when the other one is kept", y -> y.back(slot), NOT);
            refused(() -> keptAheadOfAText(slot), "back(" + k + ") behind a text", y -> y.back(slot), NOT);
            NamedNext x = keptAheadOfAText(slot);
            due("keep(" + k + ") behind a text", x.keep(slot), 1);
            due("back(" + k + ") behind it", x.back(slot), 1);
        }
        NamedNext x = keptOnly(0);
        write(x, "pax");
        due("library() with a fault", x.library(), NOT);
        due("back(0) behind a text with a fault", x.back(0), 1);
        x.erase();
        due("back(0) behind a text that was erased", x.back(0), 1);
    }

    private static NamedNext keptOnly(int k) {
        NamedNext x = told(EIGHT, "book 0");
        x.name(0, 1);
        x.keep(k);
        x.day();
        return x;
    }

    private static NamedNext keptAheadOfAText(int k) {
        NamedNext x = keptOnly(k);
        tell(x, "peace");
        x.day();
        return x;
    }
}
