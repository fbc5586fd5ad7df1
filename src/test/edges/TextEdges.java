/** What is told: the terms of readers, books and texts, and the promises 1 to 5. */
final class TextEdges extends Edge {
    private static final String[] READERS = {"plain", "flatterer", "blind", "sulker"};
    private static final String SEVEN = times(7, "plain 1");
    private static final String EIGHT = times(8, "plain 1");
    private static final String TWO = "plain 1;plain 1";

    private TextEdges() { }

    static void test() {
        readersAsTheyCome();
        kinds();
        ranks();
        feudsAtFirst();
        moves();
        booksAsTheyCome();
        lettersOfTheText();
        clauses();
        words();
        libraryClause();
        ninthReader();
        feudClause();
        moveClause();
        fifthBook();
        peaceClause();
        readersBehindTheClausesAhead();
        smallLetters();
        numbers();
        blanks();
        earlierTexts();
        faults();
        faultsAtTheEnd();
        order();
        behindTheClauses();
        newObject();
        writing();
        erasing();
        placeOfTheFault();
        doingTheText();
    }

    private static void readersAsTheyCome() {
        says(TERMS, "READERS are 0, 1 .. as they come, 8 at most (none at first)");
        NamedNext x = new NamedNext();
        due("readers at first", x.count(0), 0);
        due("reader(0, 0) at first", x.reader(0, 0), UNKNOWN);
        tell(x, "plain 4;plain 6");
        due("readers behind two", x.count(0), 2);
        due("reader(0, 1)", x.reader(0, 1), 4);
        due("reader(1, 1)", x.reader(1, 1), 6);
        due("reader(2, 1)", x.reader(2, 1), UNKNOWN);
        tell(x, "plain 2");
        due("reader(0, 1) behind one more", x.reader(0, 1), 4);
        due("reader(2, 1) behind one more", x.reader(2, 1), 2);

        NamedNext y = told(SEVEN);
        due("readers behind seven", y.count(0), 7);
        due("reader(7, 1) of seven", y.reader(7, 1), UNKNOWN);
        tell(y, "plain 9");
        due("readers behind eight", y.count(0), 8);
        due("reader(7, 1) of eight", y.reader(7, 1), 9);
        due("reader(8, 1) of eight", y.reader(8, 1), UNKNOWN);
        faultAt(y, "plain 9", 0);
        due("readers behind a ninth", y.count(0), 8);
    }

    private static void kinds() {
        says(TERMS, "of a KIND, 0 PLAIN, 1 FLATTERER, 2 BLIND, 3 SULKER");
        for (int kind = 0; kind < READERS.length; kind++) {
            due("the kind of a " + READERS[kind], told(READERS[kind] + " 1").reader(0, 0), kind);
        }
    }

    private static void ranks() {
        says(TERMS, "of a RANK (0 .. 9)");
        for (String word : READERS) {
            for (int rank = 0; rank <= 9; rank++) {
                due("the rank of " + word + " " + rank, told(word + " " + rank).reader(0, 1), rank);
            }
            due("the rank of " + word + " 09", told(word + " 09").reader(0, 1), 9);
            faultAt(word + " 10", word.length() + 1);
            faultAt(word + " 99", word.length() + 1);
            faultAt(word + " -1", word.length() + 1);
        }
    }

    private static void feudsAtFirst() {
        says(TERMS, "some are in FEUD with one another (nobody at first)");
        due("feuds of no readers", new NamedNext().count(3), 0);
        NamedNext x = told(EIGHT);
        due("feuds at first", x.count(3), 0);
        for (int reader = 0; reader < 8; reader++) {
            due("feuds of " + reader + " at first", x.reader(reader, 2), 0);
        }
        tell(x, "feud 7 0");
        due("pairs", x.count(3), 1);
        due("feuds of 7", x.reader(7, 2), 1);
        due("feuds of 0", x.reader(0, 2), 128);
        due("feuds of 1", x.reader(1, 2), 0);
        StringBuilder all = new StringBuilder();
        for (int a = 0; a < 8; a++) {
            for (int b = a + 1; b < 8; b++) {
                all.append("feud ").append(a).append(' ').append(b).append(';');
            }
        }
        tell(x, all.substring(0, 14 * 9 - 1));
        tell(x, all.substring(14 * 9, 28 * 9 - 1));
        due("pairs when all are in feud", x.count(3), 28);
        for (int reader = 0; reader < 8; reader++) {
            due("feuds of " + reader + " with all", x.reader(reader, 2), 255 - (1 << reader));
        }
    }

    private static void moves() {
        says(TERMS, "each may MOVE away on a DAY (0 .. 98; 99, as at first: never)");
        NamedNext x = told("plain 1;plain 1;plain 1;plain 1;plain 1;move 1 98;move 2 99;move 3 0;move 4 1;book 0");
        due("the day of one of whom nothing was told", x.reader(0, 3), 99);
        due("the day of move 1 98", x.reader(1, 3), 98);
        due("the day of move 2 99", x.reader(2, 3), 99);
        due("the day of move 3 0", x.reader(3, 3), 0);
        due("may(0, 3) on day 0, when he moves", x.may(0, 3), 0);
        due("may(0, 4) on day 0, the day before he moves", x.may(0, 4), 1);
        days(x, 1);
        due("may(0, 4) on day 1, when he moves", x.may(0, 4), 0);
        days(x, 96);
        due("may(0, 1) on day 97, the day before he moves", x.may(0, 1), 1);
        days(x, 1);
        due("may(0, 1) on day 98, when he moves", x.may(0, 1), 0);
        due("may(0, 2) on day 98", x.may(0, 2), 1);
        days(x, 1);
        due("may(0, 1) on day 99", x.may(0, 1), 0);
        due("may(0, 2) on day 99: he never moves", x.may(0, 2), 1);
        days(x, 1);
        due("may(0, 2) on day 100: he never moves", x.may(0, 2), 1);
        due("as(1, 1) on day 100: nor does 0", x.as(1, 1), 0b00101);
    }

    private static void booksAsTheyCome() {
        says(TERMS, "BOOKS are 0, 1 .. as they come, 4 at most (none at first): each with a first READER.");
        NamedNext x = told("plain 1;plain 1;plain 1");
        due("books at first", x.count(1), 0);
        due("book(0, 4) at first", x.book(0, 4), UNKNOWN);
        tell(x, "book 2;book 0");
        due("books behind two", x.count(1), 2);
        due("book(0, 4)", x.book(0, 4), 2);
        due("book(1, 4)", x.book(1, 4), 0);
        due("book(2, 4)", x.book(2, 4), UNKNOWN);
        tell(x, "book 1");
        due("books behind three", x.count(1), 3);
        due("book(2, 4) behind three", x.book(2, 4), 1);
        due("book(3, 4) behind three", x.book(3, 4), UNKNOWN);
        tell(x, "book 1");
        due("books behind four", x.count(1), 4);
        due("book(3, 4) behind four", x.book(3, 4), 1);
        due("book(4, 4) behind four", x.book(4, 4), UNKNOWN);
        due("book(0, 4) behind four", x.book(0, 4), 2);
        faultAt(x, "book 1", 0);
        due("books behind a fifth", x.count(1), 4);
    }

    private static void lettersOfTheText() {
        says(TERMS, "THE TEXT is a row of letters, 160 at most");
        NamedNext x = new NamedNext();
        due("letters at first", x.count(8), 0);
        write(x, " ".repeat(158));
        due("the letter 159", x.write(' '), 159);
        due("the letter 160", x.write(' '), 160);
        due("the letter 161", x.write(' '), FULL);
        due("letters behind it", x.count(8), 160);
        // The last letter of the longest text is read, too.
        String before = "plain 1;plain 1;plain 1;book 2;feud 0 1;move 1";
        NamedNext y = told(before + " ".repeat(160 - before.length() - 2) + "98");
        due("the day at the end of 160 letters", y.reader(1, 3), 98);
        stands("peace" + " ".repeat(155));
        stands(" ".repeat(155) + "peace");
        faultAt(" ".repeat(154) + "peace;", 160);
        faultAt(" ".repeat(159) + "x", 159);
    }

    private static void clauses() {
        says(TERMS, "CLAUSES with ; between, 14 at most");
        stands("peace");
        stands("peace;peace");
        faultAt(";", 0);
        faultAt(";peace", 0);
        faultAt("peace;", 6);
        faultAt("peace;;peace", 6);
        faultAt("peace peace", 6);
        faultAt("peace,peace", 5);
        faultAt("peace:peace", 5);
        stands(times(13, "peace"));
        stands(times(14, "peace"));
        // Behind the fourteenth no ; can stand, so the fifteenth begins with the fault.
        faultAt(times(15, "peace"), 83);
        faultAt(times(14, "peace") + ";", 83);
        faultAt(times(14, "peace") + " ; x", 84);
        faultAt(times(16, "peace"), 83);
        // A fault ahead of it is the first one.
        faultAt(times(13, "peace") + ";pax;peace", 78);
        NamedNext x = told(EIGHT);
        due("library() of fourteen", done(x, times(14, "feud 0 1")), 14);
        due("library() of thirteen", done(x, times(13, "feud 0 1")), 13);
        due("library() of fifteen", done(x, times(15, "feud 0 1")), NOT);
    }

    private static int done(NamedNext x, String text) {
        x.erase();
        write(x, text);
        return x.library();
    }

    private static void words() {
        says(TERMS, "each is one of: library. plain R. flatterer R. blind R. sulker R. feud A B. move A D. book A. "
            + "peace. (As written here, without points");
        String[] each = {"library", "plain 1", "flatterer 1", "blind 1", "sulker 1", "feud 0 1", "move 0 1", "book 0",
            "peace"};
        NamedNext x = told(TWO);
        for (String clause : each) {
            stands(x, clause);
            // With its point, with a number more, with a number less, with a letter more or less, with a great one.
            faultAt(x, clause + ".", clause.length());
            faultAt(x, clause + " 1", clause.length() + 1);
            faultAt(x, clause + " x", clause.length() + 1);
            if (clause.contains(" ")) {
                String less = clause.substring(0, clause.lastIndexOf(' '));
                faultAt(x, less, less.length());
                faultAt(x, less + ";peace", less.length());
                faultAt(x, less + " x", less.length() + 1);
            }
            faultAt(x, clause.substring(1), 0);
            faultAt(x, "x" + clause, 0);
            String word = clause.split(" ")[0];
            faultAt(x, clause.replace(word, word + "s"), 0);
            faultAt(x, clause.replace(word, word.substring(0, word.length() - 1)), 0);
            faultAt(x, clause.substring(0, 1).toUpperCase() + clause.substring(1), 0);
        }
        String[] others = {"reader 1", "flatter 1", "feuds 0 1", "war 0 1", "wall", "name 0 1", "0", "1 plain"};
        for (String other : others) {
            faultAt(x, other, 0);
        }
    }

    private static void libraryClause() {
        says(TERMS, "library: all as at first");
        NamedNext x = told("blind 3;sulker 4;plain 5;feud 0 1;move 1 4;book 2;book 1");
        tell(x, "library");
        due("readers", x.count(0), 0);
        due("books", x.count(1), 0);
        due("feuds", x.count(3), 0);
        due("reader(0, 0)", x.reader(0, 0), UNKNOWN);
        due("book(0, 0)", x.book(0, 0), UNKNOWN);
        // Nothing of those who were told ahead of it clings to those who come behind.
        tell(x, "plain 6;plain 7;feud 0 1;move 0 2;move 1 3;book 1;library;blind 8;blind 9;book 0");
        due("readers behind it", x.count(0), 2);
        due("books behind it", x.count(1), 1);
        due("feuds behind it", x.count(3), 0);
        due("reader(0, 0) behind it", x.reader(0, 0), 2);
        due("reader(0, 1) behind it", x.reader(0, 1), 8);
        due("reader(1, 2) behind it", x.reader(1, 2), 0);
        due("reader(0, 3) behind it", x.reader(0, 3), 99);
        due("reader(1, 3) behind it", x.reader(1, 3), 99);
        due("book(0, 4) behind it", x.book(0, 4), 0);
        tell(x, "library;library");
        due("readers behind two", x.count(0), 0);
        // Room for all, once more.
        NamedNext y = told(EIGHT, times(4, "book 0"));
        stands(y, "library;" + EIGHT + ";book 7;book 7;book 7;book 7");
        faultAt(y, "library;book 0", 13);
        faultAt(y, "library;feud 0 1", 13);
        due("readers, as nothing was done", y.count(0), 8);
    }

    private static void ninthReader() {
        says(TERMS, "plain ..: one more READER of RANK R, a ninth cannot stand there (at its word)");
        for (String word : READERS) {
            stands(SEVEN + ";" + word + " 1");
            faultAt(SEVEN + ";peace;" + word + " 1;" + word + " 1", 62 + word.length() + 3);
            faultAt(EIGHT + ";" + word + " 1", 64);
            faultAt(EIGHT + ";" + word, 64);
            faultAt(EIGHT + "; " + word + " 10", 65);
            faultAt(EIGHT + ";" + word + " x", 64);
            NamedNext seven = told(SEVEN);
            stands(seven, word + " 1");
            faultAt(seven, word + " 1;" + word + " 1", word.length() + 3);
            faultAt(told(EIGHT), word + " 1", 0);
            stands(told(EIGHT), "library;" + word + " 1");
        }
        NamedNext x = told(SEVEN);
        tell(x, "sulker 8");
        due("readers", x.count(0), 8);
        due("the rank of the eighth", x.reader(7, 1), 8);
    }

    private static void feudClause() {
        says(TERMS, "feud: A, B are in FEUD, unlike (else a FAULT at B)");
        NamedNext x = told(EIGHT);
        faultAt(x, "feud 0 0", 7);
        faultAt(x, "feud 7 7", 7);
        faultAt(x, "feud 7 07", 7);
        faultAt(x, "feud  03   3", 11);
        faultAt(x, "peace;feud 5 5;peace", 13);
        faultAt(x, "feud 8 8", 5);
        stands(x, "feud 0 7");
        stands(x, "feud 7 0");
        faultAt(x, "feud 0 8", 7);
        faultAt(x, "feud 8 0", 5);
        tell(x, "feud 2 5");
        due("feuds of 2", x.reader(2, 2), 32);
        due("feuds of 5", x.reader(5, 2), 4);
        tell(x, "feud 5 2;feud 2 5");
        due("pairs: told again it is the same", x.count(3), 1);
        tell(x, "feud 5 6");
        due("feuds of 5 with two", x.reader(5, 2), 68);
        due("pairs", x.count(3), 2);
    }

    private static void moveClause() {
        says(TERMS, "move: A MOVES away on DAY D");
        NamedNext x = told(TWO);
        for (int day : new int[] {0, 1, 9, 10, 97, 98, 99}) {
            tell(x, "move 1 " + day);
            due("the day", x.reader(1, 3), day);
            due("the day of the other one", x.reader(0, 3), 99);
        }
        tell(x, "move 1 07");
        due("the day of move 1 07", x.reader(1, 3), 7);
        tell(x, "move 1 5;move 1 3");
        due("the day that was told last", x.reader(1, 3), 3);
        faultAt(x, "move 1 100", 7);
        faultAt(x, "move 1 -1", 7);
        faultAt(x, "move 2 0", 5);
        stands(x, "move 0 0");
        stands(x, "move 1 99");
    }

    private static void fifthBook() {
        says(TERMS, "book: one more, its first READER is A, a fifth cannot stand there");
        stands(TWO + ";" + times(3, "book 1"));
        stands(TWO + ";" + times(4, "book 1"));
        faultAt(TWO + ";" + times(5, "book 1"), 44);
        faultAt(TWO + ";" + times(4, "book 1") + ";book 2", 44);
        faultAt(TWO + ";" + times(4, "book 1") + ";book", 44);
        NamedNext x = told(TWO, times(3, "book 1"));
        stands(x, "book 0");
        faultAt(x, "book 0;book 0", 7);
        faultAt(x, "book 2", 5);
        tell(x, "book 0");
        faultAt(x, "book 0", 0);
        stands(x, "library;plain 1;book 0");
        due("the first reader of book 3", x.book(3, 4), 0);
        due("the first reader of book 2", x.book(2, 4), 1);
        // One more reader stays possible when there is room for no more books.
        stands(x, "plain 1;feud 0 2");
    }

    private static void peaceClause() {
        says(TERMS, "peace: no FEUDS");
        NamedNext x = told(EIGHT, "feud 0 1;feud 0 7;feud 6 7;move 0 3;book 1");
        due("pairs", x.count(3), 3);
        tell(x, "peace");
        due("pairs behind it", x.count(3), 0);
        for (int reader = 0; reader < 8; reader++) {
            due("feuds of " + reader, x.reader(reader, 2), 0);
        }
        due("readers stay", x.count(0), 8);
        due("books stay", x.count(1), 1);
        due("days of moving stay", x.reader(0, 3), 3);
        tell(x, "feud 0 1;peace;feud 2 3");
        due("feuds of 0, told ahead", x.reader(0, 2), 0);
        due("feuds of 2, told behind", x.reader(2, 2), 8);
        stands("peace");
    }

    private static void readersBehindTheClausesAhead() {
        says(TERMS, "READERS such as there are behind the CLAUSES ahead");
        faultAt("feud 0 1;" + TWO, 5);
        faultAt("plain 1;feud 0 1;plain 1", 15);
        stands(TWO + ";feud 0 1");
        faultAt("move 0 1;plain 1", 5);
        stands("plain 1;move 0 1");
        faultAt("plain 1;move 1 1;plain 1", 13);
        faultAt("book 0;plain 1", 5);
        stands("plain 1;book 0");
        faultAt("plain 1;book 1;plain 1", 13);
        NamedNext x = told(TWO);
        stands(x, "feud 0 1;move 1 1;book 1");
        faultAt(x, "feud 0 2", 7);
        stands(x, "plain 1;feud 0 2");
        faultAt(x, "library;plain 1;book 1", 21);
        stands(x, "library;plain 1;book 0");
        faultAt(told(EIGHT), "book 8", 5);
        stands(told(EIGHT), "book 7");
        faultAt(told(EIGHT), "book 10", 5);
    }

    private static void smallLetters() {
        says(TERMS, "small letters a .. z");
        faultAt("peacea", 0);
        faultAt("peacez", 0);
        faultAt("peace`", 5);
        faultAt("peace{", 5);
        faultAt("peaceA", 5);
        faultAt("peaceZ", 5);
        faultAt("PEACE", 0);
        faultAt("peac" + (char) ('e' + 128), 0);
        faultAt("peace" + (char) ('a' + 128), 5);
        faultAt("peace_", 5);
        faultAt("peace" + (char) 0, 5);
        faultAt("peace" + (char) 255, 5);
        faultAt("a", 0);
        faultAt("z", 0);
    }

    private static void numbers() {
        says(TERMS, "numbers of 1 or 2 digits");
        stands("plain 5");
        stands("plain 05");
        faultAt("plain 005", 6);
        faultAt("plain 0005", 6);
        stands("plain 0");
        stands("plain 00");
        faultAt("plain 000", 6);
        NamedNext x = told(TWO);
        stands(x, "feud 00 01");
        faultAt(x, "feud 000 1", 5);
        faultAt(x, "feud 0 001", 7);
        stands(x, "move 1 98");
        faultAt(x, "move 1 098", 7);
        faultAt(x, "move 001 98", 5);
        stands(x, "book 01");
        faultAt(x, "book 001", 5);
        // 256 and 2^32 more than a number that could stand.
        faultAt(x, "book 256", 5);
        faultAt(x, "book 4294967296", 5);
        // The neighbours of 0 and 9 are no digits.
        faultAt("plain 5/", 7);
        faultAt("plain 5:", 7);
        faultAt("plain /", 6);
        faultAt("plain :", 6);
        faultAt("plain +5", 6);
        faultAt("plain 5.0", 7);
    }

    private static void blanks() {
        says(TERMS, "blanks between");
        NamedNext x = told(TWO);
        stands(x, "feud 0 1");
        stands(x, "feud  0   1");
        stands(x, "feud" + " ".repeat(70) + "0" + " ".repeat(70) + "1");
        stands(x, "peace ;peace");
        stands(x, "peace; peace");
        stands(x, "peace  ;  peace");
        stands(x, " peace");
        stands(x, "peace ");
        // Two numbers need one between; where the row of letters ends anyway, none is needed.
        faultAt(x, "feud 01", 7);
        stands(x, "feud0 1");
        stands(x, "move0 1;book1");
        faultAt(x, "pe ace", 0);
        faultAt(x, "move 0 1 2", 9);
        faultAt(x, "move 0  1 2", 10);
        for (int letter : new int[] {9, 10, 13, 31, 33, 0, 127, 160, 255}) {
            faultAt(x, "feud" + (char) letter + "0 1", 4);
            faultAt(x, "peace" + (char) letter, 5);
            faultAt(x, (char) letter + "peace", 0);
        }
    }

    private static void earlierTexts() {
        says(TERMS, "what earlier texts told stays.)");
        NamedNext x = told("flatterer 3;sulker 4;feud 0 1;move 1 7;book 1");
        tell(x, "peace;feud 1 0");
        tell(x, "blind 5;feud 2 0");
        due("readers", x.count(0), 3);
        due("books", x.count(1), 1);
        due("reader(0, 0)", x.reader(0, 0), 1);
        due("reader(1, 1)", x.reader(1, 1), 4);
        due("reader(0, 2)", x.reader(0, 2), 6);
        due("reader(1, 3)", x.reader(1, 3), 7);
        due("book(0, 4)", x.book(0, 4), 1);
        tell(x, "book 2");
        due("book(0, 4) behind one more", x.book(0, 4), 1);
        due("book(1, 4) behind one more", x.book(1, 4), 2);
        // A text with a fault has told nothing, not even the clauses ahead of it.
        write(x, "plain 1;peace;move 0 2;book 0;x");
        due("library() with a fault", x.library(), NOT);
        due("readers behind it", x.count(0), 3);
        due("feuds behind it", x.count(3), 2);
        due("reader(0, 3) behind it", x.reader(0, 3), 99);
        due("books behind it", x.count(1), 2);
    }

    private static void faults() {
        says(TERMS, "A FAULT is at the first TOKEN (a row of small letters, a row of digits, any other letter) that "
            + "cannot stand there (a number out of its bounds, of more digits, also)");
        faultAt("peace;pax;paix", 6);
        faultAt("pax", 0);
        faultAt("  pax", 2);
        faultAt("12", 0);
        faultAt("peace12", 5);
        faultAt("plain 1x", 7);
        faultAt("plain x1", 6);
        faultAt("plain 1 1", 8);
        faultAt("plain ..", 6);
        faultAt("peace..", 5);
        faultAt("peace;..", 6);
        faultAt("peace;.peace", 6);
        faultAt("plain 10;pax", 6);
        faultAt("plain 100", 6);
        faultAt("plain 1;plain 1;feud 0 2;feud 0 0", 23);
        faultAt("plain 1;move 0 123", 15);
        faultAt("plain ;", 6);
        faultAt("plain;1", 5);
        faultAt("feud", 4);
        faultAt("plain plain 1", 6);
    }

    private static void faultsAtTheEnd() {
        says(TERMS, "or at the end, if it comes too soon.");
        faultAt("", 0);
        faultAt(" ", 1);
        faultAt("   ", 3);
        faultAt(" ".repeat(160), 160);
        faultAt("plain", 5);
        faultAt("plain ", 6);
        faultAt("plain   ", 8);
        faultAt("peace;", 6);
        faultAt("peace;  ", 8);
        NamedNext x = told(TWO);
        faultAt(x, "feud", 4);
        faultAt(x, "feud 0", 6);
        faultAt(x, "feud 0 ", 7);
        faultAt(x, "move", 4);
        faultAt(x, "move 0", 6);
        faultAt(x, "book", 4);
        faultAt(x, "book ", 5);
        stands(x, "book 0 ");
    }

    private static void order() {
        says(TERMS, "CLAUSES are done in their order.");
        NamedNext x = told(TWO + ";feud 0 1;peace");
        due("feuds when peace comes behind", x.count(3), 0);
        tell(x, "peace;feud 0 1");
        due("feuds when peace comes ahead", x.count(3), 1);
        tell(x, "move 0 4;move 0 2;move 0 3");
        due("the day that comes last", x.reader(0, 3), 3);
        tell(x, "library;plain 5;plain 6;book 1;book 0");
        due("the rank of who comes first", x.reader(0, 1), 5);
        due("the first reader of the book that comes first", x.book(0, 4), 1);
        tell(x, "plain 7;library");
        due("readers when library comes last", x.count(0), 0);
    }

    private static void behindTheClauses() {
        says(TERMS, "Behind them it is DAY 0, each BOOK is with its first READER, who alone has had it, there are no "
            + "SLIPS, nothing is kept or can be undone.");
        NamedNext x = told(EIGHT, "book 3;book 4");
        x.name(0, 1);
        x.name(0, 2);
        x.name(1, 1);
        x.day();
        x.slip(0, 1);
        x.slip(1, 2);
        x.keep(0);
        x.keep(1);
        tell(x, "book 5");
        due("the day", x.count(2), 0);
        for (int book = 0; book < 3; book++) {
            due("who holds book " + book, x.book(book, 0), 3 + book);
            due("who has had book " + book, x.book(book, 1), 8 << book);
            due("the dust of book " + book, x.book(book, 2), 0);
        }
        due("namings", x.count(6), 0);
        due("slips", x.count(5), 0);
        due("holder() by no slips", x.holder(), NONE);
        due("back(0)", x.back(0), NOT);
        due("back(1)", x.back(1), NOT);
        due("what can be undone", x.count(7), 0);
        due("undo()", x.undo(), NOT);
        // With a fault nothing of that happens.
        NamedNext y = told(EIGHT, "book 3");
        y.name(0, 1);
        y.slip(0, 1);
        y.keep(0);
        write(y, "pax");
        due("library() with a fault", y.library(), NOT);
        due("the day then", y.count(2), 1);
        due("who holds book 0 then", y.book(0, 0), 1);
        due("slips then", y.count(5), 1);
        due("what can be undone then", y.count(7), 1);
        due("back(0) then", y.back(0), 1);
    }

    private static void newObject() {
        says(1, "Nobody, no BOOKS.");
        NamedNext x = new NamedNext();
        for (int what = 0; what <= 8; what++) {
            due("count(" + what + ")", x.count(what), 0);
        }
        due("reader(0, 0)", x.reader(0, 0), UNKNOWN);
        due("book(0, 0)", x.book(0, 0), UNKNOWN);
        due("clubs(2)", x.clubs(2), 0);
        due("fault()", x.fault(), 0);
        due("undo()", x.undo(), NOT);
        due("back(0)", x.back(0), NOT);
        // Objects have nothing in common.
        NamedNext other = told("plain 1;book 0");
        write(other, "peace");
        due("readers, while another one has some", x.count(0), 0);
        due("letters, while another one has some", x.count(8), 0);
    }

    private static void writing() {
        says(2, "A letter (its number, 0 .. 255) more of THE TEXT: how many it has. OUTSIDE; FULL.");
        NamedNext x = new NamedNext();
        for (int letter = 0; letter <= 255; letter++) {
            due("write(" + letter + ")", x.write(letter), letter % 128 + 1);
            if (letter == 127) {
                due("erase()", x.erase(), 128);
            }
        }
        for (int letter : new int[] {-1, 256, 'p' + 256, 'p' - 256, 'p' + 65536, LEAST, GREATEST}) {
            refused(TextEdges::someLetters, "write(" + letter + ")", y -> y.write(letter), OUTSIDE);
            refused(TextEdges::allLetters, "write(" + letter + ") when full", y -> y.write(letter), OUTSIDE);
        }
        for (int letter : new int[] {0, ' ', ';', 255}) {
            refused(TextEdges::allLetters, "write(" + letter + ") when full", y -> y.write(letter), FULL);
        }
        NamedNext almost = someLetters();
        due("a letter more of " + almost.count(8), almost.write(' '), almost.count(8));
    }

    private static NamedNext someLetters() {
        NamedNext x = told(TWO + ";book 0");
        write(x, "plain 3;feud 0 2");
        return x;
    }

    private static NamedNext allLetters() {
        NamedNext x = someLetters();
        write(x, " ".repeat(160 - x.count(8)));
        return x;
    }

    private static void erasing() {
        says(3, "THE TEXT is empty: how many letters it had.");
        NamedNext x = new NamedNext();
        due("erase() of none", x.erase(), 0);
        x.write('p');
        due("erase() of one", x.erase(), 1);
        due("letters behind it", x.count(8), 0);
        due("fault() behind it", x.fault(), 0);
        write(x, "peace;peace" + " ".repeat(149));
        due("erase() of 160", x.erase(), 160);
        due("erase() once more", x.erase(), 0);
        due("write() behind it", x.write('p'), 1);
        // What was erased is not read on behind the new end.
        write(x, "eace");
        due("fault() of what was written behind it", x.fault(), NONE);
        due("library() of what was written behind it", x.library(), 1);
        due("erase() behind library()", x.erase(), 0);
        NamedNext y = told(TWO);
        write(y, "plain 1");
        y.erase();
        due("readers: an erased text tells nothing", y.count(0), 2);
    }

    private static void placeOfTheFault() {
        says(4, "The place of the FAULT (the letter with which the TOKEN begins, or the length); NONE.");
        faultAt("pax", 0);
        faultAt("peace;paxx", 6);
        faultAt("plain 123", 6);
        faultAt("plain   123", 8);
        faultAt("peace!!", 5);
        faultAt("peace;", 6);
        faultAt("", 0);
        stands("peace");
        faultAt(" ".repeat(159) + "p", 159);
        NamedNext x = told(TWO);
        write(x, "plain 1");
        due("fault()", x.fault(), NONE);
        due("fault() once more", x.fault(), NONE);
        due("readers: it was not done", x.count(0), 2);
        due("letters: they are there yet", x.count(8), 7);
        unchanged(TextEdges::someLetters, "fault()", asked(someLetters()));
    }

    private static NamedNext asked(NamedNext x) {
        x.fault();
        return x;
    }

    private static void doingTheText() {
        says(5, "THE TEXT's CLAUSES are done, and it is empty then: how many there were. NOT: it has a FAULT.");
        NamedNext x = new NamedNext();
        due("library() of nothing", x.library(), NOT);
        write(x, "plain 1");
        due("library() of one", x.library(), 1);
        due("letters behind it", x.count(8), 0);
        due("fault() behind it", x.fault(), 0);
        due("library() behind it", x.library(), NOT);
        write(x, times(13, "peace"));
        due("library() of thirteen", x.library(), 13);
        write(x, times(14, "peace"));
        due("library() of fourteen", x.library(), 14);
        due("readers", x.count(0), 1);
        String[] wrong = {"", " ", "plain 1;", "plain 1;plain 10", times(15, "peace"), "plain 1;x", "plain"};
        for (String text : wrong) {
            refused(() -> busyWith(text), "library() of '" + text + "'", NamedNext::library, NOT);
        }
    }

    private static NamedNext busyWith(String text) {
        NamedNext x = told(TWO + ";plain 1;book 0");
        x.name(0, 2);
        x.keep(1);
        x.day();
        x.slip(1, 2);
        write(x, text);
        return x;
    }
}
