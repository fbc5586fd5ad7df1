/** Slips and counts: their terms, and the promises 26 to 30. */
final class SlipsEdges extends Edge {
    private static final String EIGHT = times(8, "plain 1");

    private SlipsEdges() { }

    static void test() {
        mostSlips();
        eachNamedOnce();
        eachNamingOne();
        noRing();
        asHeMayName();
        likeOnes();
        theLeastSet();
        holders();
        slipping();
        burning();
        forgeries();
        askedForTheHolder();
        counts();
        countOfNamings();
        wrongCounts();
    }

    private static NamedNext slipped(String readers, int... pairs) {
        NamedNext x = told(readers);
        for (int i = 0; i < pairs.length; i += 2) {
            due("slip(" + pairs[i] + ", " + pairs[i + 1] + ")", x.slip(pairs[i], pairs[i + 1]), i / 2 + 1);
        }
        return x;
    }

    private static void forged(NamedNext x, int many, int set) {
        due("forged(0)", x.forged(0), many);
        due("forged(1)", x.forged(1), set);
    }

    private static void mostSlips() {
        says(TERMS, "SLIPS, 8 at most: A NAMED B, of a lost BOOK that began with anybody.");
        NamedNext x = told(EIGHT);
        due("slips at first", x.count(5), 0);
        // No book need be there, and it begins with whom the slips say: 6.
        int[] row = {6, 2, 7, 0, 5, 1, 4, 3};
        for (int i = 0; i < 7; i++) {
            due("slip " + (i + 1), x.slip(row[i], row[i + 1]), i + 1);
        }
        forged(x, 0, 0);
        due("holder()", x.holder(), 3);
        due("the eighth slip", x.slip(6, 2), 8);
        due("the ninth slip", x.slip(6, 2), FULL);
        due("slips behind it", x.count(5), 8);
        forged(x, 1, 1);
        // Who named and who was named are not the same.
        NamedNext y = slipped("plain 1;plain 1", 0, 1);
        due("holder() of 0 1", y.holder(), 1);
        NamedNext z = slipped("plain 1;plain 1", 1, 0);
        due("holder() of 1 0", z.holder(), 0);
        // Books that there are have nothing to do with the lost one.
        NamedNext w = told("plain 1;plain 1;plain 1;book 0;book 1");
        w.name(0, 1);
        w.slip(2, 0);
        w.slip(0, 1);
        forged(w, 0, 0);
    }

    private static void eachNamedOnce() {
        says(TERMS, "FORGED: the fewest SLIPS without which all others can be of one ROW (each NAMED at most once");
        forged(told(EIGHT), 0, 0);
        forged(slipped(EIGHT, 0, 1), 0, 0);
        forged(slipped(EIGHT, 0, 1, 2, 3), 0, 0);
        forged(slipped(EIGHT, 0, 1, 2, 1), 1, 1);
        forged(slipped(EIGHT, 0, 1, 2, 1, 3, 1), 2, 3);
        forged(slipped(EIGHT, 0, 1, 2, 3, 4, 1), 1, 1);
        NamedNext x = slipped(EIGHT, 0, 7, 1, 7, 2, 7, 3, 7, 4, 7, 5, 7, 6, 7, 0, 6);
        forged(x, 6, 63);
        due("holder() when 6 is left of all who named 7", x.holder(), 7);
    }

    private static void eachNamingOne() {
        says(TERMS, "naming at most one");
        forged(slipped(EIGHT, 0, 1, 0, 2), 1, 1);
        forged(slipped(EIGHT, 0, 1, 0, 2, 0, 3), 2, 3);
        forged(slipped(EIGHT, 0, 1, 2, 3, 0, 4), 1, 1);
        forged(slipped(EIGHT, 0, 1, 1, 2), 0, 0);
        forged(slipped(EIGHT, 7, 0, 7, 1, 7, 2, 7, 3, 7, 4, 7, 5, 7, 6), 6, 63);
    }

    private static void noRing() {
        says(TERMS, "no ring");
        forged(slipped(EIGHT, 0, 1, 1, 0), 1, 1);
        forged(slipped(EIGHT, 0, 1, 1, 2), 0, 0);
        forged(slipped(EIGHT, 0, 1, 1, 2, 2, 0), 1, 1);
        forged(slipped(EIGHT, 0, 1, 1, 2, 2, 3, 3, 4, 4, 5, 5, 6, 6, 7), 0, 0);
        forged(slipped(EIGHT, 0, 1, 1, 2, 2, 3, 3, 4, 4, 5, 5, 6, 6, 7, 7, 0), 1, 1);
        // Two rings, and a ring beside a row.
        forged(slipped(EIGHT, 0, 1, 1, 0, 2, 3, 3, 2), 2, 0b0101);
        forged(slipped(EIGHT, 0, 1, 5, 6, 6, 5), 1, 0b010);
        forged(slipped(EIGHT, 0, 1, 1, 0, 2, 3, 3, 2, 4, 5, 5, 4, 6, 7, 7, 6), 4, 0b01010101);
    }

    private static void asHeMayName() {
        says(TERMS, "each as he MAY NAME on DAY 0, had by nobody");
        String four = "plain 5;flatterer 5;blind 5;sulker 5;plain 4;plain 5;plain 6";
        forged(slipped(four, 0, 4), 0, 0);
        forged(slipped(four, 0, 6), 0, 0);
        forged(slipped(four, 1, 4), 1, 1);
        forged(slipped(four, 1, 5), 0, 0);
        forged(slipped(four, 1, 6), 0, 0);
        forged(slipped(four, 2, 4), 0, 0);
        forged(slipped(four, 2, 6), 0, 0);
        forged(slipped(four, 3, 4), 0, 0);
        forged(slipped(four, 3, 5), 0, 0);
        forged(slipped(four, 3, 6), 1, 1);
        String feud = "plain 1;blind 1;feud 0 1";
        forged(slipped(feud, 0, 1), 1, 1);
        forged(slipped(feud, 1, 0), 0, 0);
        // 0 moves on day 0 and cannot have been named; 1 moves on day 1 and can.
        String moving = "plain 1;plain 1;plain 1;move 0 0;move 1 1;book 2";
        forged(slipped(moving, 2, 0), 1, 1);
        forged(slipped(moving, 2, 1), 0, 0);
        forged(slipped(moving, 0, 1), 0, 0);
        NamedNext later = slipped(moving, 2, 1);
        days(later, 5);
        forged(later, 0, 0);
        due("as(2, 0) on day 5, when 1 has moved", later.as(2, 0), 0);
        // Who has had a book of the library can have had the lost one, or not.
        NamedNext had = slipped(moving, 0, 2, 2, 1);
        had.name(0, 1);
        forged(had, 0, 0);
        due("holder()", had.holder(), 1);
    }

    private static void likeOnes() {
        says(TERMS, "like ones: one of them is FORGED)");
        forged(slipped(EIGHT, 0, 1, 0, 1), 1, 1);
        forged(slipped(EIGHT, 2, 3, 0, 1, 0, 1), 1, 2);
        forged(slipped(EIGHT, 0, 1, 0, 1, 0, 1), 2, 3);
        forged(slipped(EIGHT, 0, 1, 0, 1, 0, 1, 0, 1, 0, 1, 0, 1, 0, 1, 0, 1), 7, 127);
        due("holder() of like ones", slipped(EIGHT, 0, 1, 0, 1).holder(), 1);
    }

    private static void theLeastSet() {
        says(TERMS, "how many; the set, of several the least (bits).");
        // Fewest come first: the slip 2 alone, though the slips 0 and 1 together are a lesser set.
        forged(slipped(EIGHT, 1, 0, 2, 3, 2, 0), 1, 4);
        forged(slipped(EIGHT, 5, 6, 6, 4, 4, 5), 1, 1);
        forged(slipped(EIGHT, 5, 6, 6, 4, 4, 5, 4, 2), 1, 4);
        forged(slipped(EIGHT, 5, 6, 6, 4, 4, 5, 4, 2, 1, 3, 7, 3), 2, 4 + 16);
        // The last of eight alone.
        forged(slipped(EIGHT, 0, 1, 1, 2, 2, 3, 3, 4, 4, 5, 5, 6, 6, 7, 0, 7), 1, 128);
        // All of them.
        forged(slipped("flatterer 9;plain 1;plain 2", 0, 1, 0, 2), 2, 3);
        forged(slipped("flatterer 9;plain 1", 0, 1, 0, 1, 0, 1, 0, 1, 0, 1, 0, 1, 0, 1, 0, 1), 8, 255);
    }

    private static void holders() {
        says(TERMS, "HOLDER: by the others, the least READER who is NAMED by one and names nobody; none.");
        due("of no slips", told(EIGHT).holder(), NONE);
        due("of no readers", new NamedNext().holder(), NONE);
        due("of one", slipped(EIGHT, 0, 7).holder(), 7);
        due("of a row", slipped(EIGHT, 1, 7, 7, 0).holder(), 0);
        due("of two ends", slipped(EIGHT, 0, 6, 7, 3).holder(), 3);
        due("of two ends, told the other way about", slipped(EIGHT, 7, 3, 0, 6).holder(), 3);
        due("not who is named and names", slipped(EIGHT, 0, 1, 1, 5, 2, 6).holder(), 5);
        due("not by who is named by a forged one", slipped("flatterer 9;plain 1;plain 2", 0, 1, 1, 2).holder(), 2);
        due("not by who names by a forged one", slipped("plain 1;flatterer 9;plain 2", 0, 1, 1, 2).holder(), 1);
        due("when all are forged", slipped("flatterer 9;plain 1", 0, 1).holder(), NONE);
        due("of a ring", slipped(EIGHT, 5, 6, 6, 4, 4, 5).holder(), 5);
    }

    /** With slips, a text, something kept and to undo. */
    private static NamedNext busy(int slips) {
        NamedNext x = told(EIGHT, "book 0");
        x.name(0, 2);
        x.keep(0);
        x.day();
        for (int i = 0; i < slips; i++) {
            x.slip(i % 7, i % 7 + 1);
        }
        write(x, "move 0 3");
        return x;
    }

    private static void slipping() {
        says(26, "A SLIP: how many. UNKNOWN; FULL.");
        NamedNext x = told("plain 1;plain 1;plain 1");
        for (int i = 1; i <= 8; i++) {
            due("slip " + i, x.slip(i % 3, (i + 1) % 3), i);
            due("slips behind it", x.count(5), i);
        }
        due("slip(0, 1) behind eight", x.slip(0, 1), FULL);
        for (int slips : new int[] {0, 7, 8}) {
            for (int reader : new int[] {-1, 8, LEAST, GREATEST}) {
                refused(() -> busy(slips), "slip(" + reader + ", 0) behind " + slips, y -> y.slip(reader, 0), UNKNOWN);
                refused(() -> busy(slips), "slip(0, " + reader + ") behind " + slips, y -> y.slip(0, reader), UNKNOWN);
                refused(() -> busy(slips), "slip(" + reader + ", " + reader + ") behind " + slips,
                    y -> y.slip(reader, reader), UNKNOWN);
            }
            for (int reader = 0; reader < 8; reader++) {
                int same = reader;
                refused(() -> busy(slips), "slip(" + same + ", " + same + ") behind " + slips,
                    y -> y.slip(same, same), UNKNOWN);
            }
        }
        refused(() -> busy(8), "slip(0, 1) behind eight", y -> y.slip(0, 1), FULL);
        refused(() -> busy(8), "slip(7, 0) behind eight", y -> y.slip(7, 0), FULL);
        due("slip(7, 0) behind seven", busy(7).slip(7, 0), 8);
        due("slip(0, 1) of nobody", new NamedNext().slip(0, 1), UNKNOWN);
    }

    private static void burning() {
        says(27, "There are no SLIPS: how many there were.");
        for (int slips = 0; slips <= 8; slips++) {
            NamedNext x = busy(slips);
            due("burn() of " + slips, x.burn(), slips);
            due("slips behind it", x.count(5), 0);
            due("forged(0) behind it", x.forged(0), 0);
            due("forged(1) behind it", x.forged(1), 0);
            due("holder() behind it", x.holder(), NONE);
            due("burn() once more", x.burn(), 0);
            due("slip(3, 5) behind it", x.slip(3, 5), 1);
            due("holder() by it alone", x.holder(), 5);
            due("what can be undone stays", x.count(7), 2);
            due("the text stays", x.count(8), 8);
            due("what is kept stays", x.back(0), 1);
        }
        NamedNext y = busy(3);
        y.burn();
        unchanged(() -> busy(0), "slips that are burnt", y);
    }

    private static void forgeries() {
        says(28, "FORGED: how many (what 0), which (1). OUTSIDE.");
        forged(slipped(EIGHT, 2, 3, 0, 1, 0, 1), 1, 2);
        forged(told(EIGHT), 0, 0);
        forged(new NamedNext(), 0, 0);
        for (int what : new int[] {-1, 2, 3, LEAST, GREATEST}) {
            refused(() -> busy(8), "forged(" + what + ")", x -> x.forged(what), OUTSIDE);
            refused(NamedNext::new, "forged(" + what + ") of nobody", x -> x.forged(what), OUTSIDE);
        }
        NamedNext asked = busy(8);
        asked.forged(0);
        asked.forged(1);
        asked.holder();
        unchanged(() -> busy(8), "forged() and holder()", asked);
    }

    private static void askedForTheHolder() {
        says(29, "HOLDER; NONE.");
        due("of nobody", new NamedNext().holder(), NONE);
        due("of no slips", told(EIGHT).holder(), NONE);
        due("of 3 0", slipped(EIGHT, 3, 0).holder(), 0);
        due("of 0 7", slipped(EIGHT, 0, 7).holder(), 7);
    }

    private static void counts() {
        says(30, "0 READERS, 1 BOOKS, 2 the DAY, 3 FEUDS (pairs), 4 BOOKS that are WALLED on this DAY, by bits, 5 SLIPS");
        NamedNext x = told("plain 1;plain 2;flatterer 9;feud 0 1;feud 2 0;move 0 3;book 2;book 1;book 2;book 0");
        due("count(0)", x.count(0), 3);
        due("count(1)", x.count(1), 4);
        due("count(2)", x.count(2), 0);
        due("count(3)", x.count(3), 2);
        // 2 names nobody, being the highest; 0 is in feud with all; 1 names 2.
        due("count(4)", x.count(4), 0b1101);
        due("count(5)", x.count(5), 0);
        x.slip(0, 1);
        due("count(5) behind a slip", x.count(5), 1);
        x.name(1, 2);
        due("count(2) behind a naming", x.count(2), 1);
        due("count(4) behind a naming", x.count(4), 0b1111);
        x.day();
        due("count(2) behind a day", x.count(2), 2);
        x.undo();
        x.undo();
        due("count(4) when it is undone", x.count(4), 0b1101);
        due("count(0) of eight", told(EIGHT).count(0), 8);
        due("count(4) without books", told(EIGHT).count(4), 0);
    }

    private static void countOfNamings() {
        says(30, "6 NAMINGS so far, 7 how many can be undone, 8 letters of THE TEXT.");
        NamedNext x = told(EIGHT, "book 0;book 1;book 2;book 3");
        due("count(6)", x.count(6), 0);
        due("count(7)", x.count(7), 0);
        int namings = 0;
        for (int book = 0; book < 4; book++) {
            for (int reader = 0; reader < 8; reader++) {
                if (reader != book) {
                    x.name(book, reader);
                    namings++;
                    due("count(6) behind name(" + book + ", " + reader + ")", x.count(6), namings);
                    due("count(7) behind name(" + book + ", " + reader + ")", x.count(7), Math.min(namings, 8));
                }
            }
        }
        due("count(6), the most that there can be", x.count(6), 28);
        x.day();
        due("count(6): a day is no naming", x.count(6), 28);
        x.undo();
        due("count(6) when the day is undone", x.count(6), 28);
        x.undo();
        due("count(6) when a naming is undone", x.count(6), 27);
        due("count(7) when a naming is undone", x.count(7), 6);
        due("count(8)", x.count(8), 0);
        x.write('p');
        due("count(8) of one letter", x.count(8), 1);
        write(x, " ".repeat(200));
        due("count(8), the most that there can be", x.count(8), 160);
    }

    private static void wrongCounts() {
        says(30, "OUTSIDE.");
        for (int what : new int[] {-1, 9, 10, LEAST, GREATEST}) {
            refused(() -> busy(8), "count(" + what + ")", x -> x.count(what), OUTSIDE);
            refused(NamedNext::new, "count(" + what + ") of nobody", x -> x.count(what), OUTSIDE);
        }
    }
}
