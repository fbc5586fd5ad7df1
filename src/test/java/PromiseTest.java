/** The document's promises, one method each: ordinary inputs, the edges that it names, and wrong inputs. */
public final class PromiseTest {
    private static final int NONE = -1, UNKNOWN = -2, OUTSIDE = -3, NOT = -4, FULL = -5;
    private static final int LEAST = Integer.MIN_VALUE, GREATEST = Integer.MAX_VALUE;
    private static final String EIGHT =
        "plain 1;plain 1;plain 1;plain 1;plain 1;plain 1;plain 1;plain 1;book 7;book 7";
    private static int promise;
    private static int wrong;

    private static void due(String what, long got, long want) {
        if (got != want) {
            wrong++;
            System.out.println("promise " + promise + ": " + what + " answered " + got + ", due is " + want);
        }
    }

    private static void write(NamedNext x, String text) {
        for (int i = 0; i < text.length(); i++) {
            x.write(text.charAt(i));
        }
    }

    /** A new library of which a text, without a fault, has told. */
    private static NamedNext told(String text) {
        NamedNext x = new NamedNext();
        return more(x, text);
    }

    private static NamedNext more(NamedNext x, String text) {
        x.erase();
        write(x, text);
        due("library() of '" + text + "'", x.library(), text.split(";").length);
        return x;
    }

    private static void faultAt(String text, int place) {
        faultAt(new NamedNext(), text, place);
    }

    private static void faultAt(NamedNext x, String text, int place) {
        x.erase();
        write(x, text);
        due("fault() of '" + text + "'", x.fault(), place);
    }

    private static void newObject() {
        promise = 1;
        NamedNext x = new NamedNext();
        for (int what = 0; what <= 8; what++) {
            due("count(" + what + ")", x.count(what), 0);
        }
        due("reader(0, 0)", x.reader(0, 0), UNKNOWN);
        due("book(0, 0)", x.book(0, 0), UNKNOWN);
        due("undo()", x.undo(), NOT);
        due("back(0)", x.back(0), NOT);
    }

    private static void letters() {
        promise = 2;
        NamedNext x = new NamedNext();
        due("write(0)", x.write(0), 1);
        due("write(255)", x.write(255), 2);
        due("write(256)", x.write(256), OUTSIDE);
        due("write(-1)", x.write(-1), OUTSIDE);
        due("count(8)", x.count(8), 2);
        for (int i = 3; i <= 160; i++) {
            due("write(32), the letter " + i, x.write(32), i);
        }
        due("write(32) when full", x.write(32), FULL);
        due("write(256) when full", x.write(256), OUTSIDE);
        due("count(8) when full", x.count(8), 160);

        promise = 3;
        due("erase()", x.erase(), 160);
        due("erase() again", x.erase(), 0);
        due("count(8)", x.count(8), 0);
        due("write(112)", x.write('p'), 1);
    }

    private static void faults() {
        promise = 4;
        faultAt("", 0);
        faultAt("   ", 3);
        faultAt("peace", NONE);
        faultAt("  peace  ", NONE);
        faultAt("peace ; library", NONE);
        faultAt("peace;", 6);
        faultAt("peace; ", 7);
        faultAt(";peace", 0);
        faultAt("peace;;peace", 6);
        faultAt("peace peace", 6);
        faultAt("peace 1", 6);
        faultAt("peacea", 0);
        faultAt("peacez", 0);
        faultAt("peace{", 5);
        faultAt("peace`", 5);
        faultAt("Peace", 0);
        faultAt("peace.", 5);
        faultAt("peace\t", 5);
        faultAt("peace" + (char) 0, 5);
        faultAt("pea" + (char) 233, 0);
        faultAt("plain", 5);
        faultAt("plain ", 6);
        faultAt("plain;", 5);
        faultAt("plain x", 6);
        faultAt("plain 9", NONE);
        faultAt("plain 09", NONE);
        faultAt("plain 10", 6);
        faultAt("plain 009", 6);
        faultAt("plain -1", 6);
        faultAt("plain 1 2", 8);
        // Tokens are rows, so nothing need stand between two of them.
        faultAt("plain1", NONE);
        faultAt("plain 1;feud", 12);
        faultAt("plain 1;feud 0", 14);
        faultAt("plain 1;feud 1 0", 13);
        faultAt("plain 1;feud 0 1", 15);
        faultAt("plain 1;feud 0 0", 15);
        faultAt("plain 1;plain 1;feud 0 1", NONE);
        faultAt("feud 0 1;plain 1;plain 1", 5);
        faultAt("plain 1;move 0 99", NONE);
        faultAt("plain 1;move 0 0", NONE);
        faultAt("plain 1;move 0 100", 15);
        faultAt("plain 1;move 1 0", 13);
        faultAt("plain 1;move 0", 14);
        faultAt("move", 4);
        faultAt("move;peace", 4);
        faultAt("book", 4);
        faultAt("book;peace", 4);
        faultAt("plain 1;book /", 13);
        faultAt("plain 1;book :", 13);
        faultAt("book 0", 5);
        faultAt("plain 1;book 0", NONE);
        faultAt("plain 1;book 0;library;book 0", 28);
        faultAt("plain 1;library;plain 1;book 0", NONE);
        faultAt(" ".repeat(160), 160);
        faultAt("peace" + " ".repeat(155), NONE);
        faultAt(" ".repeat(155) + "peace", NONE);
        faultAt(" ".repeat(154) + "peace;", 160);
        faultAt(" ".repeat(155) + "plain", 160);
        manyClauses();
        faultsByWhatWasTold();
    }

    private static void manyClauses() {
        String thirteen = "peace;".repeat(13);
        faultAt(thirteen + "peace", NONE);
        faultAt(thirteen + "peace;", 83);
        faultAt(thirteen + "peace;peace", 83);
        faultAt("plain 1;".repeat(7) + "plain 1", NONE);
        faultAt("plain 1;".repeat(8) + "sulker 1", 64);
        faultAt("plain 1;".repeat(8) + "sulker", 64);
        faultAt("plain 1;" + "book 0;".repeat(4) + "peace", NONE);
        faultAt("plain 1;" + "book 0;".repeat(4) + "book 0", 36);
        faultAt("plain 1;" + "book 0;".repeat(4) + "book 9", 36);
    }

    private static void faultsByWhatWasTold() {
        NamedNext x = told(EIGHT);
        faultAt(x, "plain 1", 0);
        faultAt(x, "library;plain 1", NONE);
        faultAt(x, "feud 0 7;book 7;book 0", NONE);
        faultAt(x, "book 0;book 1;book 2", 14);
        faultAt(x, "book 8", 5);
        due("count(0): nothing is done", x.count(0), 8);
        due("count(3): nothing is done", x.count(3), 0);
        due("count(8)", x.count(8), 6);
    }

    private static void libraries() {
        promise = 5;
        NamedNext x = new NamedNext();
        due("library() of nothing", x.library(), NOT);
        write(x, "plain 1;plain 2;book 0;feud 0 1;book 2");
        due("library() with a fault", x.library(), NOT);
        due("count(8): it stays", x.count(8), 38);
        due("count(0): nothing is done", x.count(0), 0);
        x.erase();
        write(x, "plain 1;plain 2;book 1;feud 0 1");
        due("library()", x.library(), 4);
        due("count(8): it is empty", x.count(8), 0);
        due("count(0)", x.count(0), 2);
        due("count(1)", x.count(1), 1);
        due("count(3)", x.count(3), 1);
        more(x, "sulker 3;feud 2 0");
        due("reader(0, 2): what was told stays", x.reader(0, 2), 6);
        due("reader(2, 0)", x.reader(2, 0), 3);
        more(x, "feud 1 0;feud 0 1");
        due("count(3): once is enough", x.count(3), 2);
        more(x, "move 0 3;peace");
        due("count(3): peace", x.count(3), 0);
        due("reader(0, 3): peace moves nobody", x.reader(0, 3), 3);
        more(x, "library;blind 4");
        due("count(0): all as at first", x.count(0), 1);
        due("count(1): all as at first", x.count(1), 0);
        due("reader(0, 3): all as at first", x.reader(0, 3), 99);
        more(x, "plain 1;feud 0 1;book 1;move 0 2;library;blind 4;blind 4;book 0");
        due("reader(0, 2): all as at first", x.reader(0, 2), 0);
        due("reader(1, 3): all as at first", x.reader(1, 3), 99);
        due("book(0, 4): all as at first", x.book(0, 4), 0);
        afterLibrary();
    }

    private static void afterLibrary() {
        NamedNext x = told(EIGHT);
        x.name(0, 3);
        x.name(1, 2);
        x.slip(0, 1);
        x.keep(1);
        more(x, "peace");
        due("count(2): day 0", x.count(2), 0);
        due("count(5): no slips", x.count(5), 0);
        due("count(6): no namings", x.count(6), 0);
        due("count(7): nothing to undo", x.count(7), 0);
        due("undo()", x.undo(), NOT);
        due("back(1)", x.back(1), NOT);
        due("book(0, 0)", x.book(0, 0), 7);
        due("book(0, 1)", x.book(0, 1), 128);
        due("book(1, 2)", x.book(1, 2), 0);
    }

    private static void readers() {
        promise = 6;
        NamedNext x = told("plain 0;flatterer 9;blind 5;sulker 7;feud 0 2;feud 3 0;move 1 98;move 2 0;book 0;book 0;book 3");
        for (int kind = 0; kind < 4; kind++) {
            due("reader(" + kind + ", 0)", x.reader(kind, 0), kind);
        }
        due("reader(0, 1)", x.reader(0, 1), 0);
        due("reader(1, 1)", x.reader(1, 1), 9);
        due("reader(0, 2)", x.reader(0, 2), 12);
        due("reader(2, 2)", x.reader(2, 2), 1);
        due("reader(1, 2)", x.reader(1, 2), 0);
        due("reader(0, 3)", x.reader(0, 3), 99);
        due("reader(1, 3)", x.reader(1, 3), 98);
        due("reader(2, 3)", x.reader(2, 3), 0);
        due("reader(0, 4)", x.reader(0, 4), 3);
        due("reader(0, 5)", x.reader(0, 5), 3);
        due("name(1, 1)", x.name(1, 1), 2);
        due("reader(0, 4) behind it", x.reader(0, 4), 1);
        due("reader(0, 5) behind it", x.reader(0, 5), 3);
        due("reader(1, 4) behind it", x.reader(1, 4), 2);
        due("reader(3, 4)", x.reader(3, 4), 4);
        due("reader(0, 6)", x.reader(0, 6), OUTSIDE);
        due("reader(0, -1)", x.reader(0, -1), OUTSIDE);
        due("reader(4, 0)", x.reader(4, 0), UNKNOWN);
        due("reader(4, 6)", x.reader(4, 6), UNKNOWN);
        due("reader(-1, 0)", x.reader(-1, 0), UNKNOWN);
        due("reader(least, 0)", x.reader(LEAST, 0), UNKNOWN);
    }

    private static void books() {
        promise = 7;
        NamedNext x = told("plain 1;plain 1;plain 1;feud 1 2;book 0;book 2");
        due("book(0, 0)", x.book(0, 0), 0);
        due("book(0, 1)", x.book(0, 1), 1);
        due("book(0, 2)", x.book(0, 2), 0);
        due("book(0, 3)", x.book(0, 3), 0);
        due("book(1, 4)", x.book(1, 4), 2);
        x.day();
        x.day();
        due("book(0, 2) behind two days", x.book(0, 2), 2);
        x.name(0, 1);
        due("book(0, 0) behind name(0, 1)", x.book(0, 0), 1);
        due("book(0, 1) behind name(0, 1)", x.book(0, 1), 3);
        due("book(0, 2) behind name(0, 1)", x.book(0, 2), 1);
        due("book(1, 2) behind name(0, 1)", x.book(1, 2), 3);
        due("book(0, 3): 1 may not name 2", x.book(0, 3), 1);
        due("book(0, 4) stays", x.book(0, 4), 0);
        due("book(0, 5)", x.book(0, 5), OUTSIDE);
        due("book(0, -1)", x.book(0, -1), OUTSIDE);
        due("book(2, 0)", x.book(2, 0), UNKNOWN);
        due("book(2, 5)", x.book(2, 5), UNKNOWN);
        due("book(-1, 0)", x.book(-1, 0), UNKNOWN);

        NamedNext moving = told("plain 1;plain 1;move 1 2;book 0");
        moving.day();
        due("book(0, 3) on day 1", moving.book(0, 3), 0);
        moving.day();
        due("book(0, 3) on day 2, when 1 moves", moving.book(0, 3), 1);
    }

    private static void kinds() {
        promise = 8;
        NamedNext x = told("plain 5;flatterer 5;blind 5;sulker 5;plain 4;plain 6;feud 0 1;feud 1 5;feud 2 3;feud 3 4");
        int plain = 0b111100, flatterer = 0b001100, blind = 0b111011, sulker = 0b000011;
        int[][] want = {
            {plain, plain, NOT, NOT, NOT},
            {flatterer, flatterer, flatterer, NOT, NOT},
            {blind, NOT, NOT, blind, NOT},
            {sulker, sulker, sulker, NOT, sulker},
        };
        for (int reader = 0; reader < 4; reader++) {
            for (int kind = 0; kind < 5; kind++) {
                due("as(" + reader + ", " + kind + ")", x.as(reader, kind), want[reader][kind]);
            }
        }
        due("as(0, 5)", x.as(0, 5), OUTSIDE);
        due("as(0, -1)", x.as(0, -1), OUTSIDE);
        due("as(6, 0)", x.as(6, 0), UNKNOWN);
        due("as(6, 5)", x.as(6, 5), UNKNOWN);
        due("as(-1, 0)", x.as(-1, 0), UNKNOWN);

        NamedNext moving = told("blind 1;plain 1;plain 1;move 0 0;move 1 1;book 0");
        due("as(2, 0): 0 moves on this day", moving.as(2, 0), 2);
        due("as(0, 3): who moved names yet", moving.as(0, 3), 6);
        moving.name(0, 2);
        due("as(0, 3): had or not is all one", moving.as(0, 3), 4);
    }

    private static void namings() {
        promise = 9;
        NamedNext x = told("plain 1;plain 2;plain 3;feud 0 2;move 1 1;book 0;book 2");
        due("may(0, 0): he has had it", x.may(0, 0), 0);
        due("may(0, 1)", x.may(0, 1), 1);
        due("may(0, 2): a feud", x.may(0, 2), 0);
        due("may(2, 0)", x.may(2, 0), UNKNOWN);
        due("may(0, 3)", x.may(0, 3), UNKNOWN);
        due("may(-1, 0)", x.may(-1, 0), UNKNOWN);
        due("may(0, -1)", x.may(0, -1), UNKNOWN);
        x.day();
        due("may(0, 1): he has moved", x.may(0, 1), 0);

        promise = 10;
        due("name(0, 1): he has moved", x.name(0, 1), NOT);
        due("count(2): nothing changed", x.count(2), 1);
        x.undo();
        due("name(0, 1)", x.name(0, 1), 2);
        due("count(2): the next day", x.count(2), 1);
        due("count(6)", x.count(6), 1);
        due("name(0, 2): who moved names yet", x.name(0, 2), 3);
        due("name(0, 0): he has had it", x.name(0, 0), NOT);
        due("name(1, 1): another book, but he moved", x.name(1, 1), NOT);
        due("name(2, 0)", x.name(2, 0), UNKNOWN);
        due("name(0, 3)", x.name(0, 3), UNKNOWN);
        due("name(-1, 0)", x.name(-1, 0), UNKNOWN);
        due("name(0, -1)", x.name(0, -1), UNKNOWN);

        NamedNext never = told("plain 1;plain 1;move 1 99;book 0");
        for (int i = 0; i < 120; i++) {
            never.day();
        }
        due("may(0, 1) on day 120: 99 is never", never.may(0, 1), 1);
        due("name(0, 1) on day 120", never.name(0, 1), 2);
    }

    private static void lastDay() {
        promise = 11;
        NamedNext x = told("plain 1;plain 1;plain 1;book 0");
        for (int i = 1; i <= 999; i++) {
            due("day() to " + i, x.day(), i);
        }
        due("day() on day 999", x.day(), FULL);
        due("count(2)", x.count(2), 999);
        promise = 10;
        due("name(0, 1) on day 999", x.name(0, 1), FULL);
        due("name(0, 0) on day 999", x.name(0, 0), NOT);
        due("name(0, 3) on day 999", x.name(0, 3), UNKNOWN);
        due("book(0, 0)", x.book(0, 0), 0);
        promise = 12;
        due("undo() on day 999", x.undo(), 7);
        due("day() behind it", x.day(), 999);
    }

    private static void undoing() {
        promise = 12;
        NamedNext x = told(EIGHT);
        due("undo()", x.undo(), NOT);
        x.name(0, 1);
        x.day();
        x.name(1, 2);
        due("count(7)", x.count(7), 3);
        due("undo() of name(1, 2)", x.undo(), 2);
        due("book(1, 0)", x.book(1, 0), 7);
        due("book(1, 1)", x.book(1, 1), 128);
        due("book(1, 2)", x.book(1, 2), 2);
        due("count(2)", x.count(2), 2);
        due("undo() of day()", x.undo(), 1);
        due("count(2)", x.count(2), 1);
        due("book(0, 0)", x.book(0, 0), 1);
        due("undo() of name(0, 1)", x.undo(), 0);
        due("book(0, 0)", x.book(0, 0), 7);
        due("book(0, 2)", x.book(0, 2), 0);
        due("count(6)", x.count(6), 0);
        due("undo()", x.undo(), NOT);
        for (int i = 0; i < 6; i++) {
            x.name(0, i);
        }
        for (int i = 0; i < 5; i++) {
            x.day();
        }
        due("count(7) behind eleven", x.count(7), 8);
        due("name(0, 0), refused", x.name(0, 0), NOT);
        for (int i = 7; i >= 0; i--) {
            due("undo() to " + i, x.undo(), i);
        }
        due("undo() behind eight", x.undo(), NOT);
        due("count(2)", x.count(2), 3);
        due("book(0, 0)", x.book(0, 0), 2);
        due("count(6)", x.count(6), 3);
    }

    private static void keeping() {
        promise = 13;
        NamedNext x = told(EIGHT);
        due("keep(2)", x.keep(2), UNKNOWN);
        due("keep(-1)", x.keep(-1), UNKNOWN);
        due("keep(0)", x.keep(0), 0);
        x.name(0, 3);
        x.day();
        due("keep(1)", x.keep(1), 2);
        due("count(7): what can be undone stays", x.count(7), 2);
        due("undo() behind keep(1)", x.undo(), 1);
        x.slip(0, 1);

        promise = 14;
        due("back(2)", x.back(2), UNKNOWN);
        due("back(-1)", x.back(-1), UNKNOWN);
        due("back(1)", x.back(1), 2);
        due("count(7): nothing can be undone", x.count(7), 0);
        due("undo()", x.undo(), NOT);
        due("count(5): slips stay", x.count(5), 1);
        due("book(0, 0)", x.book(0, 0), 3);
        due("book(0, 1)", x.book(0, 1), 136);
        due("book(0, 2)", x.book(0, 2), 2);
        due("count(6)", x.count(6), 1);
        x.name(0, 4);
        due("back(0)", x.back(0), 0);
        due("book(0, 0)", x.book(0, 0), 7);
        due("count(6)", x.count(6), 0);
        due("back(1) once more", x.back(1), 2);
        due("book(0, 0) once more", x.book(0, 0), 3);
        due("keep(0) anew", x.keep(0), 2);
        x.day();
        due("back(0) anew", x.back(0), 2);
        more(x, "peace");
        due("back(0) behind a text", x.back(0), NOT);
        due("back(1) behind a text", x.back(1), NOT);
        write(x, "pax");
        x.keep(0);
        due("library() with a fault", x.library(), NOT);
        due("back(0) behind it", x.back(0), 0);
    }

    /**
     * From 0 lead the rows 1 2 3, 1 3, 2 1 3, 2 3, 3 (where 3 names nobody, as all are below him).
     */
    private static NamedNext rowsToThree() {
        return told("plain 4;plain 2;plain 3;flatterer 9;book 0;book 3");
    }

    private static void rows() {
        NamedNext x = rowsToThree();
        promise = 15;
        due("longest(0, 0)", x.longest(0, 0), 3);
        due("longest(0, 1)", x.longest(0, 1), 2);
        due("longest(1, 0) of a walled one", x.longest(1, 0), 0);
        due("longest(1, 1) of a walled one", x.longest(1, 1), 1);
        due("longest(0, 2)", x.longest(0, 2), OUTSIDE);
        due("longest(0, -1)", x.longest(0, -1), OUTSIDE);
        due("longest(2, 0)", x.longest(2, 0), UNKNOWN);
        due("longest(2, 2)", x.longest(2, 2), UNKNOWN);
        due("longest(-1, 0)", x.longest(-1, 0), UNKNOWN);
        promise = 16;
        due("row(0, 0)", x.row(0, 0), 1);
        due("row(0, 1)", x.row(0, 1), 2);
        due("row(0, 2)", x.row(0, 2), 3);
        due("row(0, 3)", x.row(0, 3), NONE);
        due("row(0, greatest)", x.row(0, GREATEST), NONE);
        due("row(1, 0)", x.row(1, 0), NONE);
        due("row(0, -1)", x.row(0, -1), OUTSIDE);
        due("row(2, -1)", x.row(2, -1), UNKNOWN);
        promise = 17;
        due("shortest(0)", x.shortest(0), 1);
        due("shortest(1)", x.shortest(1), 0);
        due("shortest(2)", x.shortest(2), UNKNOWN);
        promise = 18;
        due("can(0)", x.can(0), 14);
        due("can(1)", x.can(1), 0);
        due("can(2)", x.can(2), UNKNOWN);
        promise = 19;
        due("all(0)", x.all(0), 14);
        due("all(1)", x.all(1), 0);
        due("all(-1)", x.all(-1), UNKNOWN);
        promise = 20;
        due("fame(0)", x.fame(0), 14);
        due("fame(1)", x.fame(1), 0);
        due("fame(2)", x.fame(2), UNKNOWN);
        rowsByDay();
        rowsApart();
    }

    /** Days go on in a row: who moves on day 1 can only be named at once. */
    private static void rowsByDay() {
        NamedNext x = told("plain 9;plain 1;plain 1;plain 8;move 1 1;move 3 0;book 0");
        promise = 15;
        due("longest(0, 0) by day", x.longest(0, 0), 2);
        due("longest(0, 1) by day", x.longest(0, 1), 1);
        promise = 16;
        due("row(0, 0) by day", x.row(0, 0), 1);
        due("row(0, 1) by day", x.row(0, 1), 2);
        promise = 17;
        due("shortest(0) by day", x.shortest(0), 1);
        promise = 18;
        due("can(0) by day", x.can(0), 6);
        promise = 20;
        due("fame(0) by day", x.fame(0), 2);
        x.day();
        promise = 15;
        due("longest(0, 0) a day later", x.longest(0, 0), 1);
        promise = 18;
        due("can(0) a day later", x.can(0), 4);
        due("count(2): nothing changed", x.count(2), 1);
    }

    /** 1, 2, 3 name one another and not 4, who has the highest rank, but is in no longest row. */
    private static void rowsApart() {
        NamedNext x = told("plain 0;sulker 1;plain 1;plain 1;sulker 9;book 1;book 0");
        more(x, "feud 4 1;feud 4 2;feud 4 3;feud 2 0;feud 3 0");
        // From 0: 1 2 3, 1 3 2, and 4, who names nobody.
        promise = 15;
        due("longest(1, 0) apart", x.longest(1, 0), 3);
        due("longest(1, 1) apart", x.longest(1, 1), 2);
        promise = 17;
        due("shortest(1) apart", x.shortest(1), 1);
        promise = 18;
        due("can(1) apart", x.can(1), 30);
        promise = 19;
        due("all(1) apart", x.all(1), 14);
        promise = 20;
        due("fame(1) apart", x.fame(1), 9);
        // From 1: 2 3 and 3 2 end there; 0 4.
        promise = 15;
        due("longest(0, 0) apart", x.longest(0, 0), 2);
        due("longest(0, 1) apart", x.longest(0, 1), 3);
        promise = 16;
        due("row(0, 0) apart", x.row(0, 0), 0);
        due("row(0, 1) apart", x.row(0, 1), 4);
        promise = 19;
        due("all(0) apart", x.all(0), 0);
    }

    private static void lots() {
        NamedNext x = rowsToThree();
        // 1 2 3, 1 3, 2 1 3, 2 3 each by 1/6, 3 by 1/3.
        promise = 21;
        due("mean(0, 0)", x.mean(0, 0), 2);
        due("mean(0, 1)", x.mean(0, 1), 1);
        due("mean(1, 0)", x.mean(1, 0), 0);
        due("mean(1, 1)", x.mean(1, 1), 1);
        due("mean(0, 2)", x.mean(0, 2), OUTSIDE);
        due("mean(0, -1)", x.mean(0, -1), OUTSIDE);
        due("mean(2, 0)", x.mean(2, 0), UNKNOWN);
        due("mean(2, 2)", x.mean(2, 2), UNKNOWN);
        promise = 22;
        due("odds(0, 1, 0)", x.odds(0, 1, 0), 1);
        due("odds(0, 1, 1)", x.odds(0, 1, 1), 2);
        due("odds(0, 3, 0)", x.odds(0, 3, 0), 1);
        due("odds(0, 3, 1)", x.odds(0, 3, 1), 1);
        due("odds(0, 0, 0): he has had it", x.odds(0, 0, 0), 1);
        due("odds(0, 0, 1): he has had it", x.odds(0, 0, 1), 1);
        due("odds(1, 2, 0)", x.odds(1, 2, 0), 0);
        due("odds(1, 2, 1)", x.odds(1, 2, 1), 1);
        due("odds(0, 1, 2)", x.odds(0, 1, 2), OUTSIDE);
        due("odds(0, 0, -1)", x.odds(0, 0, -1), OUTSIDE);
        due("odds(0, 4, 0)", x.odds(0, 4, 0), UNKNOWN);
        due("odds(2, 0, 0)", x.odds(2, 0, 0), UNKNOWN);
        due("odds(0, -1, 2)", x.odds(0, -1, 2), UNKNOWN);

        // From 0 to 1, 2 or 3: 1 ends it, 2 and 3 name one another and then 1, or 1 at once.
        NamedNext y = told("plain 0;flatterer 9;plain 1;plain 1;book 0");
        promise = 21;
        due("mean(0, 0) of thirds and halves", y.mean(0, 0), 2);
        promise = 22;
        due("odds(0, 2, 0) of thirds and halves", y.odds(0, 2, 0), 1);
        due("odds(0, 2, 1) of thirds and halves", y.odds(0, 2, 1), 2);
        NamedNext z = told("plain 0;plain 0;plain 0;plain 0;feud 1 2;feud 1 3;book 0");
        // 1 ends it (1/3); 2 3 or 3 2 (2/3).
        promise = 21;
        due("mean(0, 0) of thirds", z.mean(0, 0), 5);
        due("mean(0, 1) of thirds", z.mean(0, 1), 3);
        promise = 22;
        due("odds(0, 1, 1) of thirds", z.odds(0, 1, 1), 3);
        due("odds(0, 3, 0) of thirds", z.odds(0, 3, 0), 2);
    }

    private static void turns() {
        promise = 23;
        NamedNext x = rowsToThree();
        due("turns(0, 0)", x.turns(0, 0), 1);
        due("turns(0, 1): 3 names nobody", x.turns(0, 1), 3);
        due("turns(1, 0) of a walled one", x.turns(1, 0), 0);
        due("turns(1, 1) of a walled one", x.turns(1, 1), NONE);
        due("turns(0, 2)", x.turns(0, 2), OUTSIDE);
        due("turns(0, -1)", x.turns(0, -1), OUTSIDE);
        due("turns(2, 0)", x.turns(2, 0), UNKNOWN);
        due("turns(2, 2)", x.turns(2, 2), UNKNOWN);
        NamedNext y = told("plain 1;plain 1;plain 1;book 0");
        due("turns(0, 0): two more, so the other one wins", y.turns(0, 0), 0);
        due("turns(0, 1): two more", y.turns(0, 1), NONE);
        y.name(0, 2);
        due("turns(0, 0): one more", y.turns(0, 0), 1);
        due("turns(0, 1): one more", y.turns(0, 1), 1);
    }

    private static void clubs() {
        promise = 24;
        NamedNext x = told(EIGHT);
        due("clubs(2)", x.clubs(2), 28);
        due("clubs(5)", x.clubs(5), 8 * 7 * 6 * 5 * 4 / 5);
        due("clubs(6)", x.clubs(6), 3360);
        due("clubs(1)", x.clubs(1), OUTSIDE);
        due("clubs(7)", x.clubs(7), OUTSIDE);
        due("clubs(least)", x.clubs(LEAST), OUTSIDE);
        due("clubs(greatest)", x.clubs(GREATEST), OUTSIDE);
        x.name(0, 3);
        due("clubs(2): had or not is all one", x.clubs(2), 28);
        // 0 names 1, 2; 1 names 0, 2; 2, a flatterer above them, nobody; 3 names all, whom none of them names.
        NamedNext y = told("plain 5;flatterer 5;flatterer 6;blind 9;feud 2 3;feud 0 3;feud 1 3;move 3 1");
        due("clubs(2) of four", y.clubs(2), 1);
        due("clubs(3) of four", y.clubs(3), 0);
        // 4 names all, and all name him: 0 1, 0 4, 1 4, 2 4, 3 4.
        more(y, "plain 7;book 0");
        due("clubs(2) of five", y.clubs(2), 5);
        // 0 1 4, 0 4 1, 0 2 4, 1 2 4, 0 4 3, 1 4 3, 2 4 3.
        due("clubs(3) of five", y.clubs(3), 7);
        y.day();
        due("clubs(2) when 3 has moved", y.clubs(2), 4);
        due("clubs(3) when 3 has moved", y.clubs(3), 4);
    }

    private static void meetings() {
        promise = 25;
        NamedNext x = told(EIGHT);
        due("meet(0, 1): with one reader now", x.meet(0, 1), 0);
        x.name(0, 0);
        due("meet(0, 1)", x.meet(0, 1), 1);
        due("meet(1, 0)", x.meet(1, 0), 1);
        due("meet(0, 0)", x.meet(0, 0), UNKNOWN);
        due("meet(0, 2)", x.meet(0, 2), UNKNOWN);
        due("meet(2, 0)", x.meet(2, 0), UNKNOWN);
        due("meet(-1, 0)", x.meet(-1, 0), UNKNOWN);
        // 0 and 1 can only name one another: the books change places and are walled.
        NamedNext y = told("plain 1;plain 1;book 0;book 1");
        due("meet(0, 1): they cross", y.meet(0, 1), NONE);
        NamedNext low = told("plain 1;plain 1;plain 1;book 1;book 2");
        due("meet(0, 1) at 0", low.meet(0, 1), 1);
        // 0 names 1, 2; 1 names 0, 3; 2 and 3 name all. Book 0 can be with 1 2, 1 3, 1 2 3, book 1 with 0 3, 0 2, 0 2 3.
        NamedNext late = told("plain 2;sulker 2;sulker 8;blind 1;feud 3 0;book 0;book 1");
        due("meet(0, 1) when all have had both", late.meet(0, 1), 3);
        // 0 names only 2 or 1, 1 names only 0: 0 2 3 and 1 0 2 pass each other by a day.
        NamedNext z = told("plain 1;plain 1;plain 1;plain 1;feud 1 2;feud 1 3;feud 0 3;book 0;book 1");
        due("meet(0, 1) of two who go one behind the other", z.meet(0, 1), NONE);
        more(z, "peace;feud 1 2");
        due("meet(0, 1) at 3", z.meet(0, 1), 1);
        more(z, "move 3 0");
        due("meet(0, 1) when 3 has moved", z.meet(0, 1), NONE);
    }

    private static void slips() {
        promise = 26;
        NamedNext x = told(EIGHT);
        due("slip(0, 8)", x.slip(0, 8), UNKNOWN);
        due("slip(-1, 0)", x.slip(-1, 0), UNKNOWN);
        due("slip(3, 3)", x.slip(3, 3), UNKNOWN);
        for (int i = 1; i <= 8; i++) {
            due("slip " + i, x.slip(0, 1), i);
        }
        due("slip(0, 1) when full", x.slip(0, 1), FULL);
        due("slip(0, 0) when full", x.slip(0, 0), UNKNOWN);
        due("count(5)", x.count(5), 8);
        promise = 28;
        due("forged(0) of like ones", x.forged(0), 7);
        due("forged(1) of like ones", x.forged(1), 127);
        promise = 29;
        due("holder() of like ones", x.holder(), 1);
        promise = 27;
        due("burn()", x.burn(), 8);
        due("burn() again", x.burn(), 0);
        due("count(5)", x.count(5), 0);
        due("slip(0, 1) behind it", x.slip(0, 1), 1);
        forgeries();
    }

    private static void forgeries() {
        promise = 28;
        NamedNext x = told(EIGHT);
        due("forged(0) of none", x.forged(0), 0);
        due("forged(1) of none", x.forged(1), 0);
        due("forged(2)", x.forged(2), OUTSIDE);
        due("forged(-1)", x.forged(-1), OUTSIDE);
        promise = 29;
        due("holder() of none", x.holder(), NONE);
        x.slip(5, 6);
        x.slip(6, 4);
        promise = 28;
        due("forged(0) of a row", x.forged(0), 0);
        promise = 29;
        due("holder() of a row", x.holder(), 4);
        x.slip(4, 5);
        promise = 28;
        due("forged(0) of a ring", x.forged(0), 1);
        due("forged(1) of a ring", x.forged(1), 1);
        promise = 29;
        due("holder() of a ring", x.holder(), 5);
        x.slip(4, 2);
        // Now the slip 2, of 4 to 5, breaks the ring and the fork together.
        promise = 28;
        due("forged(0) of a ring with a fork", x.forged(0), 1);
        due("forged(1) of a ring with a fork", x.forged(1), 4);
        promise = 29;
        due("holder() of a ring with a fork", x.holder(), 2);
        x.slip(1, 3);
        due("holder() of two ends", x.holder(), 2);
        x.slip(7, 3);
        promise = 28;
        due("forged(1) of two who named 3", x.forged(1), 4 + 16);
        forgeriesByRule();
    }

    /** Only what one MAY NAME on day 0 stands, whatever day it is and whoever has had the book. */
    private static void forgeriesByRule() {
        NamedNext x = told("plain 1;plain 2;sulker 3;plain 9;feud 0 1;move 1 1;move 3 0;book 2");
        x.day();
        x.day();
        x.slip(2, 1);
        promise = 28;
        due("forged(0): 1 moves on day 1", x.forged(0), 0);
        x.slip(1, 2);
        x.burn();
        x.slip(0, 1);
        due("forged(1) of a feud", x.forged(1), 1);
        x.slip(2, 3);
        due("forged(1) of a sulker and a feud", x.forged(1), 3);
        x.slip(1, 3);
        due("forged(1) when 3 moves on day 0", x.forged(1), 7);
        promise = 29;
        due("holder() of all forged", x.holder(), NONE);
        x.slip(1, 2);
        due("holder() of one that is not", x.holder(), 2);
    }

    private static void counts() {
        promise = 30;
        NamedNext x = told("plain 1;plain 2;flatterer 9;feud 0 1;feud 2 0;book 2;book 1;book 2");
        x.write('p');
        x.slip(0, 1);
        due("count(0)", x.count(0), 3);
        due("count(1)", x.count(1), 3);
        due("count(3)", x.count(3), 2);
        due("count(4)", x.count(4), 5);
        x.name(1, 2);
        x.day();
        due("count(2)", x.count(2), 2);
        due("count(4) behind name(1, 2)", x.count(4), 7);
        due("count(5)", x.count(5), 1);
        due("count(6)", x.count(6), 1);
        due("count(7)", x.count(7), 2);
        due("count(8)", x.count(8), 1);
        due("count(9)", x.count(9), OUTSIDE);
        due("count(-1)", x.count(-1), OUTSIDE);
        x.undo();
        x.undo();
        due("count(6) when it is undone", x.count(6), 0);
    }

    public static void main(String[] args) {
        newObject();
        letters();
        faults();
        libraries();
        readers();
        books();
        kinds();
        namings();
        lastDay();
        undoing();
        keeping();
        rows();
        lots();
        turns();
        clubs();
        meetings();
        slips();
        counts();
        System.out.println(wrong == 0 ? "all promises hold" : wrong + " answers are not as promised");
        if (wrong != 0) {
            System.exit(1);
        }
    }
}
