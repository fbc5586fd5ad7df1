import java.util.function.Supplier;
import java.util.function.ToLongFunction;

/** What the tests of the document's edges share: whose sentence is tested, what is due, and whether all is as it was. */
abstract class Edge {
    static final int NONE = -1, UNKNOWN = -2, OUTSIDE = -3, NOT = -4, FULL = -5;
    static final int LEAST = Integer.MIN_VALUE, GREATEST = Integer.MAX_VALUE;
    static final int TERMS = 0;

    private static final Document document = new Document();
    private static String sentence = "";
    private static int wrong;

    /** The tests from here on are of these words of the document. */
    static void says(int part, String words) {
        sentence = (part == TERMS ? "terms" : "promise " + part) + ", '" + words + "'";
        must("the document says so", document.says(part, words));
    }

    static void must(String what, boolean holds) {
        if (!holds) {
            wrong++;
            System.out.println(sentence + ": not so: " + what);
        }
    }

    static void due(String what, long got, long want) {
        if (got != want) {
            wrong++;
            System.out.println(sentence + ": " + what + " answered " + got + ", due is " + want);
        }
    }

    /** How many answers were wrong, all in all; tells the words that no test was of. */
    static int end() {
        sentence = "all sentences";
        for (String words : document.unsaid()) {
            must("a test is of " + words, false);
        }
        return wrong;
    }

    // ---- libraries

    static void write(NamedNext x, String text) {
        for (int i = 0; i < text.length(); i++) {
            x.write(text.charAt(i));
        }
    }

    /** A new library of which these texts have told; none may have a fault. */
    static NamedNext told(String... texts) {
        NamedNext x = new NamedNext();
        for (String text : texts) {
            tell(x, text);
        }
        return x;
    }

    static void tell(NamedNext x, String text) {
        x.erase();
        write(x, text);
        due("fault() of '" + text + "'", x.fault(), NONE);
        due("library() of '" + text + "'", x.library(), text.split(";").length);
    }

    /** So many like clauses or parts of them, with ; between. */
    static String times(int n, String clause) {
        return (clause + ";").repeat(n).replaceAll(";$", "");
    }

    /** So many plain readers, of whom only these pairs name one another, as all others are in feud; and books. */
    static NamedNext pairs(int readers, String pairs, String books) {
        NamedNext x = told(times(readers, "plain 1"));
        for (int a = 0; a < readers; a++) {
            for (int b = a + 1; b < readers; b++) {
                if (!pairs.contains("" + a + b)) {
                    tell(x, "feud " + a + " " + b);
                }
            }
        }
        tell(x, books);
        return x;
    }

    static void days(NamedNext x, int n) {
        for (int i = 0; i < n; i++) {
            x.day();
        }
    }

    // ---- faults

    /** A text that a new library can do. */
    static void stands(String text) {
        stands(new NamedNext(), text);
    }

    /** A text that this library could do: it is not done. */
    static void stands(NamedNext x, String text) {
        faultAt(x, text, NONE);
    }

    static void faultAt(String text, int place) {
        faultAt(new NamedNext(), text, place);
    }

    /** Of a text with a fault, that library() refuses it, is looked at, too. */
    static void faultAt(NamedNext x, String text, int place) {
        x.erase();
        write(x, text);
        due("fault() of '" + text + "'", x.fault(), place);
        if (place != NONE) {
            due("library() of '" + text + "'", x.library(), NOT);
            due("letters of '" + text + "' behind it", x.count(8), text.length());
        }
        x.erase();
    }

    // ---- nothing changes

    /** A call that is refused, and changes nothing: two libraries that are made alike stay alike. */
    static void refused(Supplier<NamedNext> made, String what, ToLongFunction<NamedNext> call, long want) {
        NamedNext x = made.get();
        due(what, call.applyAsLong(x), want);
        unchanged(made, what, x);
    }

    static void unchanged(Supplier<NamedNext> made, String what, NamedNext x) {
        String was = lookThrough(made.get());
        String is = lookThrough(x);
        must(what + " changes nothing, but\n" + was + "\nbecame\n" + is, was.equals(is));
    }

    /** All that can be told of a library; it is spent then, as what it keeps shows only when it is gone back to. */
    static String lookThrough(NamedNext x) {
        StringBuilder seen = new StringBuilder("now" + look(x));
        for (int left = x.undo(); left >= 0; left = x.undo()) {
            seen.append(" | undone, ").append(left).append(look(x));
        }
        for (int k = 0; k < 2; k++) {
            seen.append(" | back ").append(x.back(k)).append(look(x));
        }
        seen.append(" | text done ").append(x.library()).append(look(x));
        return seen.toString();
    }

    /** All that can be asked for, without what is foretold, which follows from it. */
    static String look(NamedNext x) {
        StringBuilder seen = new StringBuilder(": counts");
        for (int what = 0; what <= 8; what++) {
            seen.append(' ').append(x.count(what));
        }
        for (int reader = 0; reader < x.count(0); reader++) {
            seen.append(", reader");
            for (int what = 0; what <= 5; what++) {
                seen.append(' ').append(x.reader(reader, what));
            }
        }
        for (int book = 0; book < x.count(1); book++) {
            seen.append(", book");
            for (int what = 0; what <= 4; what++) {
                seen.append(' ').append(x.book(book, what));
            }
        }
        seen.append(", forged ").append(x.forged(0)).append(' ').append(x.forged(1));
        seen.append(", holder ").append(x.holder());
        seen.append(", fault ").append(x.fault());
        return seen.toString();
    }
}
