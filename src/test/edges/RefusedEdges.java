import java.util.ArrayList;
import java.util.List;
import java.util.function.Supplier;
import java.util.function.ToLongFunction;

/** What is refused, in every call and in many states: by which answer, and that nothing changes. */
final class RefusedEdges extends Edge {
    private static final int[] NUMBERS = {LEAST, -256, -2, -1, 0, 1, 2, 3, 4, 5, 6, 7, 8, 9, 99, 255, 256, GREATEST};

    private record Call(String what, boolean changes, ToLongFunction<NamedNext> call) { }

    private RefusedEdges() { }

    static void test() {
        theFirstThatFits();
        nothingChanges();
    }

    /** Four readers, two books (of 0, who is in feud with 3, and of 1), eight slips, nothing kept or to undo. */
    private static NamedNext full() {
        NamedNext x = told("plain 1;flatterer 1;blind 1;sulker 1;feud 0 3;book 0;book 1");
        for (int i = 0; i < 8; i++) {
            x.slip(0, 1);
        }
        write(x, "x".repeat(160));
        return x;
    }

    private static NamedNext fullOnTheLastDay() {
        NamedNext x = full();
        days(x, 999);
        return x;
    }

    private static void theFirstThatFits() {
        says(TERMS, "UNKNOWN (no such READER, BOOK; one and himself, where two are asked), OUTSIDE (another number is not as "
            + "told), NOT (not now: as told), FULL: the first of these that fits.");
        Supplier<NamedNext> x = RefusedEdges::fullOnTheLastDay;
        refused(x, "write(256)", y -> y.write(256), OUTSIDE);
        refused(x, "write(255)", y -> y.write(255), FULL);
        refused(x, "library()", NamedNext::library, NOT);
        refused(x, "reader(4, 6)", y -> y.reader(4, 6), UNKNOWN);
        refused(x, "reader(3, 6)", y -> y.reader(3, 6), OUTSIDE);
        refused(x, "book(2, 5)", y -> y.book(2, 5), UNKNOWN);
        refused(x, "book(1, 5)", y -> y.book(1, 5), OUTSIDE);
        refused(x, "as(4, 5)", y -> y.as(4, 5), UNKNOWN);
        refused(x, "as(3, 5)", y -> y.as(3, 5), OUTSIDE);
        refused(x, "as(3, 3)", y -> y.as(3, 3), NOT);
        refused(x, "may(2, 0)", y -> y.may(2, 0), UNKNOWN);
        refused(x, "may(0, 4)", y -> y.may(0, 4), UNKNOWN);
        refused(x, "name(2, 3)", y -> y.name(2, 3), UNKNOWN);
        refused(x, "name(0, 4)", y -> y.name(0, 4), UNKNOWN);
        refused(x, "name(0, 3)", y -> y.name(0, 3), NOT);
        refused(x, "name(0, 1)", y -> y.name(0, 1), FULL);
        refused(x, "day()", NamedNext::day, FULL);
        refused(RefusedEdges::full, "undo()", NamedNext::undo, NOT);
        refused(x, "keep(2)", y -> y.keep(2), UNKNOWN);
        refused(x, "back(2)", y -> y.back(2), UNKNOWN);
        refused(x, "back(1)", y -> y.back(1), NOT);
        refused(x, "longest(2, 2)", y -> y.longest(2, 2), UNKNOWN);
        refused(x, "longest(1, 2)", y -> y.longest(1, 2), OUTSIDE);
        refused(x, "row(2, -1)", y -> y.row(2, -1), UNKNOWN);
        refused(x, "row(1, -1)", y -> y.row(1, -1), OUTSIDE);
        refused(x, "mean(2, 2)", y -> y.mean(2, 2), UNKNOWN);
        refused(x, "mean(1, 2)", y -> y.mean(1, 2), OUTSIDE);
        refused(x, "odds(2, 0, 2)", y -> y.odds(2, 0, 2), UNKNOWN);
        refused(x, "odds(1, 4, 2)", y -> y.odds(1, 4, 2), UNKNOWN);
        refused(x, "odds(1, 3, 2)", y -> y.odds(1, 3, 2), OUTSIDE);
        refused(x, "turns(2, 2)", y -> y.turns(2, 2), UNKNOWN);
        refused(x, "turns(1, 2)", y -> y.turns(1, 2), OUTSIDE);
        refused(x, "clubs(7)", y -> y.clubs(7), OUTSIDE);
        refused(x, "meet(0, 0)", y -> y.meet(0, 0), UNKNOWN);
        refused(x, "meet(0, 2)", y -> y.meet(0, 2), UNKNOWN);
        refused(x, "slip(0, 0)", y -> y.slip(0, 0), UNKNOWN);
        refused(x, "slip(0, 4)", y -> y.slip(0, 4), UNKNOWN);
        refused(x, "slip(0, 1)", y -> y.slip(0, 1), FULL);
        refused(x, "forged(2)", y -> y.forged(2), OUTSIDE);
        refused(x, "count(9)", y -> y.count(9), OUTSIDE);
    }

    /** A library in which everything is under way; a book is walled, another one is not. */
    private static NamedNext busy() {
        NamedNext x = told("plain 4;flatterer 2;blind 9;sulker 6;plain 0;plain 7;plain 3;plain 5",
            "feud 0 1;feud 2 3;feud 5 0;feud 7 6;move 4 5;move 6 2;book 0;book 4;book 1;book 3");
        x.name(0, 2);
        x.keep(0);
        x.name(1, 6);
        x.slip(0, 2);
        x.slip(2, 0);
        x.keep(1);
        x.name(1, 1);
        write(x, "library;sulker 3;move 0 7;book 0");
        return x;
    }

    private static NamedNext ofManyDays() {
        NamedNext x = told("plain 1;plain 1;book 0");
        days(x, 30);
        x.name(0, 1);
        write(x, "pax");
        return x;
    }

    private static void nothingChanges() {
        says(TERMS, "Refused, and nothing changes:");
        List<Supplier<NamedNext>> states = List.of(NamedNext::new, RefusedEdges::busy, RefusedEdges::full,
            RefusedEdges::fullOnTheLastDay, RefusedEdges::ofManyDays, () -> told("plain 1"));
        for (Supplier<NamedNext> state : states) {
            String was = lookThrough(state.get());
            for (Call one : calls()) {
                NamedNext x = state.get();
                long answer = one.call().applyAsLong(x);
                must(one.what() + " answered " + answer, answer >= FULL);
                if (answer < NONE || !one.changes()) {
                    must(one.what() + " changes nothing", was.equals(lookThrough(x)));
                }
            }
        }
    }

    /** Every call with numbers of all sorts; burn() and erase() are refused never, and change much. */
    private static List<Call> calls() {
        List<Call> calls = new ArrayList<>();
        calls.add(new Call("fault()", false, NamedNext::fault));
        calls.add(new Call("library()", true, NamedNext::library));
        calls.add(new Call("day()", true, NamedNext::day));
        calls.add(new Call("undo()", true, NamedNext::undo));
        calls.add(new Call("holder()", false, NamedNext::holder));
        for (int a : NUMBERS) {
            calls.add(new Call("write(" + a + ")", true, x -> x.write(a)));
            calls.add(new Call("keep(" + a + ")", true, x -> x.keep(a)));
            calls.add(new Call("back(" + a + ")", true, x -> x.back(a)));
            calls.add(new Call("shortest(" + a + ")", false, x -> x.shortest(a)));
            calls.add(new Call("can(" + a + ")", false, x -> x.can(a)));
            calls.add(new Call("all(" + a + ")", false, x -> x.all(a)));
            calls.add(new Call("fame(" + a + ")", false, x -> x.fame(a)));
            calls.add(new Call("clubs(" + a + ")", false, x -> x.clubs(a)));
            calls.add(new Call("forged(" + a + ")", false, x -> x.forged(a)));
            calls.add(new Call("count(" + a + ")", false, x -> x.count(a)));
            for (int b : NUMBERS) {
                callsOfTwo(calls, a, b);
            }
        }
        return calls;
    }

    private static void callsOfTwo(List<Call> calls, int a, int b) {
        String numbers = "(" + a + ", " + b + ")";
        calls.add(new Call("reader" + numbers, false, x -> x.reader(a, b)));
        calls.add(new Call("book" + numbers, false, x -> x.book(a, b)));
        calls.add(new Call("as" + numbers, false, x -> x.as(a, b)));
        calls.add(new Call("may" + numbers, false, x -> x.may(a, b)));
        calls.add(new Call("name" + numbers, true, x -> x.name(a, b)));
        calls.add(new Call("longest" + numbers, false, x -> x.longest(a, b)));
        calls.add(new Call("row" + numbers, false, x -> x.row(a, b)));
        calls.add(new Call("mean" + numbers, false, x -> x.mean(a, b)));
        calls.add(new Call("turns" + numbers, false, x -> x.turns(a, b)));
        calls.add(new Call("meet" + numbers, false, x -> x.meet(a, b)));
        calls.add(new Call("slip" + numbers, true, x -> x.slip(a, b)));
        for (int part = -1; part <= 2; part++) {
            int c = part;
            calls.add(new Call("odds(" + a + ", " + b + ", " + c + ")", false, x -> x.odds(a, b, c)));
        }
    }
}
