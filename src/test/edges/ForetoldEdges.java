/** What is foretold: its terms, and the promises 15 to 25. */
final class ForetoldEdges extends Edge {
    private static final String EIGHT = times(8, "plain 1");
    private static final int[] NO_BOOKS = {-1, 2, 3, 4, LEAST, GREATEST};
    private static final int[] NOT_0_OR_1 = {-1, 2, 3, LEAST, GREATEST};

    private ForetoldEdges() { }

    static void test() {
        dayByDay();
        nothingChanges();
        rows();
        longest();
        shortest();
        whoCanAndWhoMust();
        fame();
        lots();
        parts();
        turns();
        clubs();
        clubsByDay();
        meetings();
        meetingsAtTheLast();
        askedForLongest();
        askedForTheRow();
        askedOfOneBook();
        askedForMean();
        askedForOdds();
        askedForTurns();
        askedForClubs();
        askedForMeet();
    }

    /** One reader, who holds a book: it is walled, and its one row is of nobody. */
    private static NamedNext alone() {
        return told("plain 5;book 0");
    }

    private static NamedNext pair() {
        return told("plain 5;plain 7;book 0");
    }

    private static NamedNext all() {
        return told(EIGHT, "book 7;book 0");
    }

    /** 0 names 1, who names nobody, or 2, who names 3, who names nobody: the rows 1 and 2 3. */
    private static NamedNext fork(int rankOfOne) {
        return told("plain 8;plain " + rankOfOne + ";plain 3;plain 4;feud 1 2;feud 1 3;feud 0 3;book 0;book 1");
    }

    /** The same with 1 and 2 the other way about: the rows 1 3 and 2. */
    private static NamedNext forkTheOtherWay() {
        return told("plain 8;plain 3;plain 9;plain 4;feud 2 1;feud 2 3;feud 0 3;book 0");
    }

    /** 3 moves on day 2: from day 0 on he can be named first or second, but not third. */
    private static NamedNext moving() {
        return told("plain 1;plain 1;plain 1;plain 1;move 3 2;book 0;book 1");
    }

    private static void dayByDay() {
        says(TERMS, "FORETOLD for a BOOK from now, one NAMING on each DAY from this one on, no other BOOK's");
        NamedNext x = moving();
        // 1 3 2, 2 3 1, 3 1 2, 3 2 1; and 1 2, 2 1, behind which it is day 2.
        due("longest(0, 0) on day 0", x.longest(0, 0), 3);
        due("longest(0, 1) on day 0", x.longest(0, 1), 4);
        due("row(0, 0) on day 0", x.row(0, 0), 1);
        due("row(0, 1) on day 0", x.row(0, 1), 3);
        due("row(0, 2) on day 0", x.row(0, 2), 2);
        due("shortest(0) on day 0", x.shortest(0), 2);
        due("mean(0, 0) on day 0", x.mean(0, 0), 8);
        due("mean(0, 1) on day 0", x.mean(0, 1), 3);
        due("odds(0, 3, 0) on day 0", x.odds(0, 3, 0), 2);
        due("odds(0, 3, 1) on day 0", x.odds(0, 3, 1), 3);
        x.day();
        // 3 1 2, 3 2 1; and 1 2, 2 1.
        due("longest(0, 0) on day 1", x.longest(0, 0), 3);
        due("longest(0, 1) on day 1", x.longest(0, 1), 2);
        due("row(0, 0) on day 1", x.row(0, 0), 3);
        due("odds(0, 3, 1) on day 1", x.odds(0, 3, 1), 3);
        due("odds(0, 3, 0) on day 1", x.odds(0, 3, 0), 1);
        due("can(0) on day 1", x.can(0), 0b1110);
        x.day();
        due("longest(0, 0) on day 2", x.longest(0, 0), 2);
        due("longest(0, 1) on day 2", x.longest(0, 1), 2);
        due("can(0) on day 2", x.can(0), 0b0110);
        due("odds(0, 3, 0) on day 2", x.odds(0, 3, 0), 0);
        // Another book's naming counts as a day that is gone, once it is done.
        NamedNext y = moving();
        y.name(1, 2);
        due("longest(0, 1) behind another book's naming", y.longest(0, 1), 2);
        due("can(0): another book's reader has not had this one", y.can(0), 0b1110);
        // A day beyond 98: who never moves is there on all of them.
        NamedNext late = told("plain 1;plain 1;plain 1;plain 1;plain 1;move 1 98;book 0");
        days(late, 95);
        due("longest(0, 0) on day 95", late.longest(0, 0), 4);
        due("longest(0, 1) on day 95: 1 on day 95, 96 or 97", late.longest(0, 1), 18);
        days(late, 3);
        due("longest(0, 0) on day 98", late.longest(0, 0), 3);
    }

    private static void nothingChanges() {
        says(TERMS, "(nothing changes)");
        for (int book = 0; book < 2; book++) {
            for (int i = 0; i < 8; i++) {
                NamedNext x = busy();
                x.longest(book, i % 2);
                x.row(book, i);
                x.shortest(book);
                x.can(book);
                x.all(book);
                x.fame(book);
                x.mean(book, i % 2);
                x.odds(book, i, i % 2);
                x.turns(book, i % 2);
                x.clubs(2 + i % 5);
                x.meet(book, 1 - book);
                unchanged(ForetoldEdges::busy, "what is foretold of book " + book, x);
            }
        }
    }

    private static NamedNext busy() {
        NamedNext x = told("plain 4;flatterer 2;blind 9;sulker 6;plain 0;plain 7;plain 3;plain 5",
            "feud 0 1;feud 2 3;feud 5 0;move 4 5;move 6 2;book 0;book 3");
        x.name(0, 2);
        x.keep(1);
        x.day();
        x.slip(0, 2);
        x.name(1, 1);
        write(x, "peace;move 0 3");
        return x;
    }

    private static void rows() {
        says(TERMS, "A ROW is: READERS who are NAMED one after another, till it is WALLED.");
        NamedNext x = alone();
        due("longest(0, 0) of nobody", x.longest(0, 0), 0);
        due("longest(0, 1): there is one row of nobody", x.longest(0, 1), 1);
        due("shortest(0) of nobody", x.shortest(0), 0);
        NamedNext y = told("plain 1;plain 1;plain 1;book 0");
        due("shortest(0): no row ends before it must", y.shortest(0), 2);
        y.name(0, 1);
        due("shortest(0) when one is left", y.shortest(0), 1);
        due("longest(0, 0) when one is left", y.longest(0, 0), 1);
        y.name(0, 2);
        due("shortest(0) when nobody is left", y.shortest(0), 0);
        due("longest(0, 1) when nobody is left", y.longest(0, 1), 1);
    }

    private static void longest() {
        says(TERMS, "LONGEST: the most READERS of a ROW; how many such ROWS there are; the first (by READERS).");
        NamedNext x = all();
        due("longest(0, 0) of eight", x.longest(0, 0), 7);
        due("longest(0, 1) of eight", x.longest(0, 1), 5040);
        for (int i = 0; i < 7; i++) {
            due("row(0, " + i + ") of eight", x.row(0, i), i);
            due("row(1, " + i + ") of eight", x.row(1, i), i + 1);
        }
        NamedNext fork = fork(9);
        due("longest(0, 0) of 1 and 2 3", fork.longest(0, 0), 2);
        due("longest(0, 1) of 1 and 2 3", fork.longest(0, 1), 1);
        due("row(0, 0) of 1 and 2 3", fork.row(0, 0), 2);
        due("row(0, 1) of 1 and 2 3", fork.row(0, 1), 3);
        // The rows 1 3 2, 1 3 4, 2 3 1, 2 3 4, of which the first is told.
        NamedNext four = pairs(5, "01 02 13 23 34", "book 0");
        due("longest(0, 0) of four rows alike", four.longest(0, 0), 3);
        due("longest(0, 1) of four rows alike", four.longest(0, 1), 4);
        due("row(0, 0) of four rows alike", four.row(0, 0), 1);
        due("row(0, 1) of four rows alike", four.row(0, 1), 3);
        due("row(0, 2) of four rows alike", four.row(0, 2), 2);
        // From 3 the rows 0 and 1 2: who comes first of all is not in the longest.
        NamedNext last = pairs(4, "03 13 12", "book 3");
        due("longest(0, 0) of 0 and 1 2", last.longest(0, 0), 2);
        due("longest(0, 1) of 0 and 1 2", last.longest(0, 1), 1);
        due("row(0, 0) of 0 and 1 2", last.row(0, 0), 1);
        due("all(0) of 0 and 1 2", last.all(0), 0b0110);
    }

    private static void shortest() {
        says(TERMS, "SHORTEST: the fewest READERS of a ROW.");
        due("of nobody", alone().shortest(0), 0);
        due("of two", pair().shortest(0), 1);
        due("of eight", all().shortest(0), 7);
        due("of 1 and 2 3", fork(1).shortest(0), 1);
        due("of 1 3 and 2", forkTheOtherWay().shortest(0), 1);
        due("of 1 2 3 .. in which 3 comes at last or not at all", moving().shortest(0), 2);
    }

    private static void whoCanAndWhoMust() {
        says(TERMS, "CAN: READERS who are in any ROW, by bits; ALL: those who are in all LONGEST ROWS.");
        due("can(0) of nobody", alone().can(0), 0);
        due("all(0) of nobody", alone().all(0), 0);
        due("can(0) of two", pair().can(0), 2);
        due("all(0) of two", pair().all(0), 2);
        due("can(0) of eight", all().can(0), 127);
        due("all(0) of eight", all().all(0), 127);
        due("can(1) of eight", all().can(1), 254);
        due("can(0) of 1 and 2 3", fork(1).can(0), 0b1110);
        due("all(0) of 1 and 2 3", fork(1).all(0), 0b1100);
        // 0 names 1 or 2, who name nobody: two longest rows with nobody in common.
        NamedNext apart = told("plain 1;plain 1;plain 1;plain 1;feud 1 2;feud 1 3;feud 2 3;feud 0 3;book 0");
        due("can(0) of 1 and 2", apart.can(0), 0b0110);
        due("all(0) of 1 and 2", apart.all(0), 0);
        due("longest(0, 1) of 1 and 2", apart.longest(0, 1), 2);
        NamedNext y = all();
        y.name(0, 0);
        due("can(0): not who has had it", y.can(0), 126);
        due("all(0): not who has had it", y.all(0), 126);
    }

    private static void fame() {
        says(TERMS, "FAME: the most RANKS together of READERS of a ROW.");
        due("of nobody: the holder's rank does not count", alone().fame(0), 0);
        due("of two", pair().fame(0), 7);
        due("of 1 and 2 3, the longest row's", fork(6).fame(0), 7);
        due("of 1 and 2 3, both alike", fork(7).fame(0), 7);
        due("of 1 and 2 3, the shortest row's", fork(8).fame(0), 8);
        due("of eight of rank 9", told(times(8, "plain 9"), "book 0").fame(0), 63);
        due("of eight of rank 0", told(times(8, "plain 0"), "book 0").fame(0), 0);
        // A shorter row with more fame: 1 3 has 7, 2 has 9.
        due("of 1 3 and 2", forkTheOtherWay().fame(0), 9);
    }

    private static void lots() {
        says(TERMS, "LOT: each names, of those whom he MAY NAME, any alike. MEAN: how many READERS are NAMED; ODDS that one "
            + "is.");
        NamedNext x = fork(1);
        mean(x, 3, 2);
        odds(x, 1, 1, 2);
        odds(x, 2, 1, 2);
        odds(x, 3, 1, 2);
        // 1 (1/3) ends it; 2 (1/3) and 3 (1/3) name one another, and end it: all namings are alike, not all rows.
        NamedNext y = told("plain 1;plain 1;plain 1;plain 1;feud 1 2;feud 1 3;book 0");
        mean(y, 5, 3);
        odds(y, 1, 1, 3);
        odds(y, 2, 2, 3);
        odds(y, 3, 2, 3);
        // 0 names 1 or 2; 1 names nobody; 2 names 3 or 4, who name one another: three rows, 1/2, 1/4, 1/4.
        NamedNext z = told("plain 1;plain 1;plain 1;plain 1;plain 1;feud 0 3;feud 0 4;feud 1 2;feud 1 3;feud 1 4;book 0");
        mean(z, 2, 1);
        odds(z, 1, 1, 2);
        odds(z, 4, 1, 2);
        mean(moving(), 8, 3);
    }

    private static void mean(NamedNext x, long above, long below) {
        due("mean(0, 0)", x.mean(0, 0), above);
        due("mean(0, 1)", x.mean(0, 1), below);
    }

    private static void odds(NamedNext x, int reader, long above, long below) {
        due("odds(0, " + reader + ", 0)", x.odds(0, reader, 0), above);
        due("odds(0, " + reader + ", 1)", x.odds(0, reader, 1), below);
    }

    private static void parts() {
        says(TERMS, "Parts are told in lowest terms: above (part 0), below (1).");
        mean(alone(), 0, 1);
        mean(pair(), 1, 1);
        mean(all(), 7, 1);
        odds(alone(), 0, 1, 1);
        odds(pair(), 1, 1, 1);
        odds(all(), 3, 1, 1);
        // 0 names any of seven, who name nobody: 1/7 each.
        NamedNext seven = pairs(8, "01 02 03 04 05 06 07", "book 0");
        mean(seven, 1, 1);
        for (int reader = 1; reader < 8; reader++) {
            odds(seven, reader, 1, 7);
        }
        // The same, but 6 names 5 and 7, and they him: 1, 2, 3, 4, 5 6 7, 7 6 5 by 1/7 each, 6 5, 6 7 by 1/14 each.
        NamedNext more = pairs(8, "01 02 03 04 05 06 07 56 67", "book 0");
        mean(more, 12, 7);
        odds(more, 1, 1, 7);
        odds(more, 5, 5, 14);
        odds(more, 6, 3, 7);
        odds(more, 7, 5, 14);
        // None at all: 0 above 1.
        NamedNext none = moving();
        days(none, 2);
        odds(none, 3, 0, 1);
    }

    private static void turns() {
        says(TERMS, "TURNS: two NAME by turns, the first one now, whoever holds it; who MAY NAME nobody loses: 1 the first "
            + "one can win, 0; whom he NAMES then (the least; none).");
        turns(alone(), 0, NONE);
        turns(pair(), 1, 1);
        turns(told("plain 1;plain 1;plain 1;book 0"), 0, NONE);
        turns(told("plain 1;plain 1;plain 1;plain 1;book 0"), 1, 1);
        turns(all(), 1, 0);
        turns(fork(1), 1, 1);
        // 1 leaves him 3 to name, 2 leaves him nobody.
        turns(forkTheOtherWay(), 1, 2);
        NamedNext x = all();
        x.name(0, 0);
        turns(x, 0, NONE);
        x.name(0, 1);
        turns(x, 1, 2);
        // By the day: 3 cannot be named on day 2, so whom the first one does not name at once the other one leaves out.
        NamedNext y = moving();
        turns(y, 1, 3);
        y.day();
        turns(y, 1, 3);
        y.day();
        turns(y, 0, NONE);
    }

    private static void turns(NamedNext x, int wins, int whom) {
        due("turns(0, 0)", x.turns(0, 0), wins);
        due("turns(0, 1)", x.turns(0, 1), whom);
    }

    private static void clubs() {
        says(TERMS, "CLUBS of k (2 .. 6): rows of k READERS, each of whom MAY NAME the next one, the last one the first");
        int[] ofEight = {0, 0, 28, 112, 420, 1344, 3360};
        int[] ofSix = {0, 0, 15, 40, 90, 144, 120};
        for (int k = 2; k <= 6; k++) {
            due("clubs(" + k + ") of eight", all().clubs(k), ofEight[k]);
            due("clubs(" + k + ") of six", told(times(6, "plain 1")).clubs(k), ofSix[k]);
            due("clubs(" + k + ") of k, one of the " + k, told(times(k, "plain 1")).clubs(k), ofK(k));
            due("clubs(" + k + ") of one reader fewer", told(times(k - 1, "plain 1")).clubs(k), 0);
            due("clubs(" + k + ") of nobody", new NamedNext().clubs(k), 0);
        }
        // 0 names 1, 2; 1 names 2; 2 names 0, 1: the last one must name the first.
        NamedNext x = told("flatterer 1;flatterer 2;plain 3");
        due("clubs(2) of 0 2, 1 2", x.clubs(2), 2);
        due("clubs(3) of 0 1 2", x.clubs(3), 1);
        tell(x, "feud 0 1");
        due("clubs(3) when 0 does not name 1", x.clubs(3), 0);
        NamedNext chain = told("flatterer 1;flatterer 2;flatterer 3;flatterer 4");
        due("clubs(2) of a row that never comes back", chain.clubs(2), 0);
        due("clubs(4) of a row that never comes back", chain.clubs(4), 0);
        says(TERMS, "turned about they are the same one: how many.");
        // 0 1 2 is 1 2 0 and 2 0 1; the other way round it is another one.
        due("clubs(3) of three", told("plain 1;plain 1;plain 1").clubs(3), 2);
        due("clubs(2) of two", pair().clubs(2), 1);
        due("clubs(3), one way round", told("flatterer 1;flatterer 2;plain 3").clubs(3), 1);
    }

    /** Rings of k of k readers: the first one stands, the others in any order behind him. */
    private static int ofK(int k) {
        int rings = 1;
        for (int i = 2; i < k; i++) {
            rings *= i;
        }
        return rings;
    }

    private static void clubsByDay() {
        says(TERMS, "on this DAY, as if nobody had had it;");
        NamedNext x = told("plain 1;plain 1;plain 1;plain 1;move 3 1;book 0");
        due("clubs(2) on day 0", x.clubs(2), 6);
        due("clubs(4) on day 0", x.clubs(4), 6);
        x.day();
        due("clubs(2) on day 1, when 3 moves: nobody may name him", x.clubs(2), 3);
        due("clubs(4) on day 1", x.clubs(4), 0);
        x.name(0, 1);
        x.name(0, 2);
        due("clubs(2) when all have had it", x.clubs(2), 3);
        due("clubs(3) when all have had it", x.clubs(3), 2);
    }

    private static void meetings() {
        says(TERMS, "MEET: the fewest NAMINGS of two BOOKS, one of each on each DAY from this one on, behind which both are "
            + "with one READER");
        due("both with one now", told("plain 1;plain 1;book 1;book 1").meet(0, 1), 0);
        due("both with one, walled", told("plain 1;book 0;book 0").meet(0, 1), 0);
        due("a third between them", told("plain 1;plain 1;plain 1;book 0;book 1").meet(0, 1), 1);
        due("two who can only change", told("plain 1;plain 1;book 0;book 1").meet(0, 1), NONE);
        // 0 2 4 and 1 3 4, with no other ways.
        String ways = "feud 0 1;feud 0 3;feud 0 4;feud 1 2;feud 1 4;feud 2 3";
        NamedNext x = told(times(5, "plain 1"), ways + ";book 0;book 1;move 4 2");
        due("by two", x.meet(0, 1), 2);
        due("by two, asked the other way about", x.meet(1, 0), 2);
        tell(x, "move 4 1");
        due("when 4 moves on the day of the second", x.meet(0, 1), NONE);
        tell(x, "move 4 3");
        x.day();
        due("a day later, when 4 moves a day later", x.meet(0, 1), 2);
        x.day();
        due("two days later", x.meet(0, 1), NONE);
        // Behind 0 1 2 and 0 2 1 alike book 0 has been with the same three: either one who holds it then counts.
        due("3, whom only 1 names", pairs(8, "01 02 12 13 24 56 67 37", "book 0;book 5").meet(0, 1), 3);
        due("4, whom only 2 names", pairs(8, "01 02 12 13 24 56 67 47", "book 0;book 5").meet(0, 1), 3);
        // Both are named on each day: 0, who names nobody, cannot wait for the other book.
        NamedNext y = told("plain 1;blind 1;feud 0 1;book 0;book 1");
        due("may(1, 0)", y.may(1, 0), 1);
        due("when one is walled", y.meet(0, 1), NONE);
        // What one book's readers have had counts for that one alone.
        NamedNext z = told("plain 1;plain 1;plain 1;plain 1;book 0;book 1");
        z.name(0, 2);
        z.name(0, 3);
        due("when only 1 is left for book 0", z.meet(0, 1), NONE);
        z.name(1, 2);
        due("1 for book 0, and 0, 3 for book 1", z.meet(0, 1), NONE);
    }

    /** Book 0 goes 4 1 2 5 6 7 3 (or to 3 at once, or behind 4), book 1 2 5 and then round to 3, at the last together. */
    private static NamedNext lateMeeting() {
        return told("sulker 4;sulker 3;flatterer 3;sulker 2;sulker 4;sulker 6;flatterer 5;blind 7;book 0;book 1",
            "feud 0 1;feud 0 2;feud 0 5;feud 1 3;feud 1 5;feud 2 4;feud 2 6;feud 2 7;feud 3 5;feud 4 6");
    }

    private static void meetingsAtTheLast() {
        says(TERMS, "none up to 7.");
        NamedNext x = lateMeeting();
        due("by seven", x.meet(0, 1), 7);
        due("by seven, asked the other way about", x.meet(1, 0), 7);
        tell(x, "move 3 7");
        due("when he moves the day behind the seventh", x.meet(0, 1), 7);
        x.day();
        due("a day later", x.meet(0, 1), NONE);
        tell(x, "move 3 6");
        due("when he moves on the day of the seventh", x.meet(0, 1), NONE);
    }

    private static void askedForLongest() {
        says(15, "LONGEST: how many READERS (what 0), how many such ROWS (1). UNKNOWN; OUTSIDE.");
        due("longest(0, 0)", fork(1).longest(0, 0), 2);
        due("longest(0, 1)", fork(1).longest(0, 1), 1);
        due("longest(1, 0), of the second book", fork(1).longest(1, 0), 3);
        due("longest(0, 0) of a walled one", alone().longest(0, 0), 0);
        for (int book : NO_BOOKS) {
            refused(ForetoldEdges::busy, "longest(" + book + ", 0)", x -> x.longest(book, 0), UNKNOWN);
            refused(ForetoldEdges::busy, "longest(" + book + ", 2)", x -> x.longest(book, 2), UNKNOWN);
        }
        for (int what : NOT_0_OR_1) {
            refused(ForetoldEdges::busy, "longest(1, " + what + ")", x -> x.longest(1, what), OUTSIDE);
        }
    }

    private static void askedForTheRow() {
        says(16, "LONGEST: READER i of the first ROW; NONE: there are not so many. UNKNOWN; OUTSIDE: i below 0.");
        due("row(0, 0) of nobody", alone().row(0, 0), NONE);
        due("row(0, 0) of one", pair().row(0, 0), 1);
        due("row(0, 1) of one", pair().row(0, 1), NONE);
        due("row(0, 6) of seven", all().row(0, 6), 6);
        due("row(0, 7) of seven", all().row(0, 7), NONE);
        due("row(0, 8) of seven", all().row(0, 8), NONE);
        due("row(0, greatest)", all().row(0, GREATEST), NONE);
        due("row(0, 0)", fork(1).row(0, 0), 2);
        due("row(0, 1)", fork(1).row(0, 1), 3);
        due("row(0, 2)", fork(1).row(0, 2), NONE);
        for (int book : NO_BOOKS) {
            refused(ForetoldEdges::busy, "row(" + book + ", 0)", x -> x.row(book, 0), UNKNOWN);
            refused(ForetoldEdges::busy, "row(" + book + ", -1)", x -> x.row(book, -1), UNKNOWN);
        }
        refused(ForetoldEdges::busy, "row(0, -1)", x -> x.row(0, -1), OUTSIDE);
        refused(ForetoldEdges::busy, "row(0, least)", x -> x.row(0, LEAST), OUTSIDE);
        refused(ForetoldEdges::busy, "row(0, 8)", x -> x.row(0, 8), NONE);
    }

    private static void askedOfOneBook() {
        says(17, "SHORTEST. UNKNOWN.");
        due("shortest(1), of the second book", fork(1).shortest(1), 3);
        for (int book : NO_BOOKS) {
            refused(ForetoldEdges::busy, "shortest(" + book + ")", x -> x.shortest(book), UNKNOWN);
        }
        says(18, "CAN, by bits. UNKNOWN.");
        due("can(1), of the second book", fork(1).can(1), 0b1101);
        for (int book : NO_BOOKS) {
            refused(ForetoldEdges::busy, "can(" + book + ")", x -> x.can(book), UNKNOWN);
        }
        says(19, "ALL, by bits. UNKNOWN.");
        due("all(1), of the second book", fork(1).all(1), 0b1101);
        for (int book : NO_BOOKS) {
            refused(ForetoldEdges::busy, "all(" + book + ")", x -> x.all(book), UNKNOWN);
        }
        says(20, "FAME. UNKNOWN.");
        due("fame(1), of the second book", fork(1).fame(1), 15);
        for (int book : NO_BOOKS) {
            refused(ForetoldEdges::busy, "fame(" + book + ")", x -> x.fame(book), UNKNOWN);
        }
    }

    private static void askedForMean() {
        says(21, "MEAN. UNKNOWN; OUTSIDE.");
        mean(fork(1), 3, 2);
        due("mean(1, 0), of the second book", fork(1).mean(1, 0), 3);
        for (int book : NO_BOOKS) {
            refused(ForetoldEdges::busy, "mean(" + book + ", 0)", x -> x.mean(book, 0), UNKNOWN);
            refused(ForetoldEdges::busy, "mean(" + book + ", 2)", x -> x.mean(book, 2), UNKNOWN);
        }
        for (int part : NOT_0_OR_1) {
            refused(ForetoldEdges::busy, "mean(1, " + part + ")", x -> x.mean(1, part), OUTSIDE);
        }
    }

    private static void askedForOdds() {
        says(22, "ODDS (of one who has had it: 1). UNKNOWN; OUTSIDE.");
        NamedNext x = all();
        odds(x, 7, 1, 1);
        x.name(0, 2);
        odds(x, 7, 1, 1);
        odds(x, 2, 1, 1);
        odds(alone(), 0, 1, 1);
        odds(fork(1), 3, 1, 2);
        for (int book : NO_BOOKS) {
            refused(ForetoldEdges::busy, "odds(" + book + ", 0, 0)", y -> y.odds(book, 0, 0), UNKNOWN);
            refused(ForetoldEdges::busy, "odds(" + book + ", 0, 2)", y -> y.odds(book, 0, 2), UNKNOWN);
        }
        for (int reader : new int[] {-1, 8, LEAST, GREATEST}) {
            refused(ForetoldEdges::busy, "odds(0, " + reader + ", 0)", y -> y.odds(0, reader, 0), UNKNOWN);
            refused(ForetoldEdges::busy, "odds(0, " + reader + ", 2)", y -> y.odds(0, reader, 2), UNKNOWN);
        }
        for (int part : NOT_0_OR_1) {
            refused(ForetoldEdges::busy, "odds(0, 7, " + part + ")", y -> y.odds(0, 7, part), OUTSIDE);
            refused(ForetoldEdges::busy, "odds(0, 0, " + part + ") of one who has had it", y -> y.odds(0, 0, part), OUTSIDE);
        }
    }

    private static void askedForTurns() {
        says(23, "TURNS: 1, 0 (what 0); whom he NAMES (1; NONE). UNKNOWN; OUTSIDE.");
        turns(alone(), 0, NONE);
        turns(pair(), 1, 1);
        due("turns(1, 0), of the second book", fork(1).turns(1, 0), 1);
        due("turns(1, 1), of the second book", fork(1).turns(1, 1), 0);
        for (int book : NO_BOOKS) {
            refused(ForetoldEdges::busy, "turns(" + book + ", 0)", x -> x.turns(book, 0), UNKNOWN);
            refused(ForetoldEdges::busy, "turns(" + book + ", 2)", x -> x.turns(book, 2), UNKNOWN);
        }
        for (int what : NOT_0_OR_1) {
            refused(ForetoldEdges::busy, "turns(1, " + what + ")", x -> x.turns(1, what), OUTSIDE);
        }
    }

    private static void askedForClubs() {
        says(24, "CLUBS. OUTSIDE.");
        due("clubs(2)", all().clubs(2), 28);
        due("clubs(6)", all().clubs(6), 3360);
        for (int k : new int[] {-1, 0, 1, 7, 8, LEAST, GREATEST}) {
            refused(ForetoldEdges::busy, "clubs(" + k + ")", x -> x.clubs(k), OUTSIDE);
            refused(NamedNext::new, "clubs(" + k + ") of nobody", x -> x.clubs(k), OUTSIDE);
        }
    }

    private static void askedForMeet() {
        says(25, "MEET; NONE. UNKNOWN (one BOOK and itself, too).");
        due("meet(0, 1)", all().meet(0, 1), 1);
        due("meet(1, 0)", all().meet(1, 0), 1);
        due("meet(0, 1) of two who can only change", told("plain 1;plain 1;book 0;book 1").meet(0, 1), NONE);
        for (int book : NO_BOOKS) {
            refused(ForetoldEdges::busy, "meet(" + book + ", 0)", x -> x.meet(book, 0), UNKNOWN);
            refused(ForetoldEdges::busy, "meet(0, " + book + ")", x -> x.meet(0, book), UNKNOWN);
            refused(ForetoldEdges::busy, "meet(" + book + ", " + book + ")", x -> x.meet(book, book), UNKNOWN);
        }
        refused(ForetoldEdges::busy, "meet(0, 0)", x -> x.meet(0, 0), UNKNOWN);
        refused(ForetoldEdges::busy, "meet(1, 1)", x -> x.meet(1, 1), UNKNOWN);
        NamedNext four = told("plain 1;plain 1;book 0;book 1;book 0;book 1");
        due("meet(0, 2)", four.meet(0, 2), 0);
        due("meet(3, 1)", four.meet(3, 1), 0);
        due("meet(3, 4)", four.meet(3, 4), UNKNOWN);
    }
}
