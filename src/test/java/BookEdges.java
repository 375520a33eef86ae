/** Edges of promises 19 to 25, and of BOOKS, VALUE and BEST shares. */
final class BookEdges {
    private BookEdges() {
    }

    static void all() {
        add();
        shut();
        book();
        value();
        best();
        valueWith();
        needless();
    }

    /** Six of SIDE 0, beside what else is there. */
    private static SecretForces sixOfZero() {
        SecretForces x = Edge.laden("fields 1 1 1; forces 5 4");
        for (int i = 1; i <= 4; i++) {
            x.add(0, i);
        }
        return x;
    }

    /** SIDE 0 has 02 20, SIDE 1 has 01 10; gains 1 0, 0 1. */
    private static SecretForces halves() {
        return Edge.told("fields 1 1; forces 2 1; book 0 02 20; book 1 01 10");
    }

    /**
     * FIELDS 1 3, so that who has more in FIELD 1 gains 2. SIDE 0 has 52 43 34 25 16, SIDE 1 has
     * 61 52 43 34 25 16: by 16 against 16 nobody gains; 07, which is not there, would gain 2 always.
     */
    private static SecretForces fiveBySix() {
        return Edge.told("fields 1 3; forces 7 7; book 0 52 43 34 25 16; book 1 61 52 43 34 25 16");
    }

    private static SecretForces emptyBook(int side) {
        SecretForces x = Edge.laden();
        x.shut(side);
        return x;
    }

    private static void add() {
        Doc.says(Doc.TERMS, "BOOKS: up to 6 unlike SPLITS of each SIDE, in order");
        SecretForces x = new SecretForces();
        int[] list = {20, 0, 7, 3, 19, 1};
        for (int side = 0; side < 2; side++) {
            for (int k = 0; k < 6; k++) {
                Due.is("add", x.add(side, list[k] % (21 - 6 * side)), k + 1);
            }
            Due.is("a seventh", x.add(side, 8), -1);
        }
        for (int k = 0; k < 6; k++) {
            Due.is("book 0, " + k, x.book(0, k), list[k]);
            Due.is("book 1, " + k, x.book(1, k), list[k] % 15);
        }

        Doc.says(19, "A SPLIT comes behind the BOOK of a SIDE: how many there are");
        x = new SecretForces();
        Due.is("the first SPLIT", x.add(0, 0), 1);
        Due.is("the last SPLIT", x.add(0, 20), 2);
        Due.is("the same number of the other SIDE", x.add(1, 0), 1);
        Due.is("behind", x.book(0, 1), 20);

        Doc.says(19, "it is there");
        Edge.refused("the first one of it", -1, y -> y.add(0, 3));
        Edge.refused("the last one of it", -1, y -> y.add(0, 0));
        Edge.refused("of side 1", -1, y -> y.add(1, 2));
        Edge.refused("of six", -1, BookEdges::sixOfZero, y -> y.add(0, 4));

        Doc.says(19, "six are");
        Due.is("there are", sixOfZero().book(0, -1), 6);
        Edge.refused("a seventh", -1, BookEdges::sixOfZero, y -> y.add(0, 5));
        Due.is("the other one has room", sixOfZero().add(1, 5), 3);

        Doc.says(19, "others");
        for (int i : new int[] {-1, 4, Edge.LEAST, Edge.MOST}) {
            Edge.refused("add(0, " + i + ")", -1, y -> y.add(0, i));
        }
        Edge.refused("add(1, 3)", -1, y -> y.add(1, 3));
        for (int side : Edge.NOT_0_1) {
            Edge.refused("add(" + side + ", 1)", -1, y -> y.add(side, 1));
        }
    }

    private static void shut() {
        Doc.says(20, "The BOOK of a SIDE is empty: how many there were");
        SecretForces x = sixOfZero();
        Due.is("six", x.shut(0), 6);
        Due.is("none", x.shut(0), 0);
        Due.is("it is empty", x.book(0, -1), 0);
        Due.is("nothing is there", x.book(0, 0), -1);
        Due.is("the other one stays", x.book(1, -1), 2);
        Due.is("plans and notes stay", x.count(7) * 1000 + x.count(8) * 100 + x.count(9) * 10 + x.count(10), 2233);
        Due.is("there is room again, for those of before too", x.add(0, 4), 1);
        Due.is("of side 1", x.shut(1), 2);
        Due.is("that of side 0 stays", x.book(0, -1), 1);
        Due.is("of a new object", new SecretForces().shut(1), 0);

        Doc.says(20, "no such SIDE");
        for (int side : Edge.NOT_0_1) {
            Edge.refused("shut(" + side + ")", -1, y -> y.shut(side));
        }
    }

    private static void book() {
        Doc.says(21, "The k-th SPLIT of a BOOK");
        SecretForces x = sixOfZero();
        Due.is("the first one", x.book(0, 0), 20);
        Due.is("the sixth one", x.book(0, 5), 4);
        Due.is("of side 1", x.book(1, 1), 0);

        Doc.says(21, "(k NONE)");
        Due.is("six", x.book(0, -1), 6);
        Due.is("none", new SecretForces().book(0, -1), 0);

        Doc.says(21, "none such");
        Edge.refused("behind six", -1, BookEdges::sixOfZero, y -> y.book(0, 6));
        Edge.refused("behind two", -1, y -> y.book(1, 2));
        for (int k : new int[] {-2, Edge.LEAST, Edge.MOST}) {
            Edge.refused("book(0, " + k + ")", -1, y -> y.book(0, k));
        }
        Edge.refused("of an empty one", -1, () -> emptyBook(0), y -> y.book(0, 0));

        Doc.says(21, "others");
        for (int side : Edge.NOT_0_1) {
            Edge.refused("book(" + side + ", 0)", -1, y -> y.book(side, 0));
            Edge.refused("book(" + side + ", -1)", -1, y -> y.book(side, -1));
        }
    }

    private static void value() {
        Doc.says(22, "in lowest terms");
        SecretForces x = halves();
        Edge.fraction("one half", x.value(0), x.value(1), 1, 2);
        x = fiveBySix();
        Edge.fraction("0", x.value(0), x.value(1), 0, 1);
        x.add(0, 0);
        Edge.fraction("2, six by six", x.value(0), x.value(1), 2, 1);
        x = Edge.told("fields 8; forces 7 0; book 0 7; book 1 0");
        Edge.fraction("the most", x.value(0), x.value(1), 8, 1);
        x = Edge.told("fields 8; forces 0 7; book 0 0; book 1 7");
        Edge.fraction("the least", x.value(0), x.value(1), -8, 1);
        x = Edge.told("fields 1; forces 0 1; book 0 0; book 1 1");
        Edge.fraction("-1, which is not refused", x.value(0), x.value(1), -1, 1);
        x = Edge.told("fields 1 1 1; forces 1 1; book 0 100 010 001; book 1 100 010 001; ties 2");
        // side 1 gains all 3 if both do the same, else the third field
        Edge.fraction("below 0, by thirds", x.value(0), x.value(1), -5, 3);

        Doc.says(22, "others");
        for (int what : Edge.NOT_0_1) {
            Edge.refused("value(" + what + ")", -100, y -> y.value(what));
        }

        Doc.says(22, "a BOOK is empty");
        for (int what = 0; what < 2; what++) {
            int part = what;
            Edge.refused("that of side 0", -100, () -> emptyBook(0), y -> y.value(part));
            Edge.refused("that of side 1", -100, () -> emptyBook(1), y -> y.value(part));
            Edge.refused("both", -100, SecretForces::new, y -> y.value(part));
        }
    }

    private static String shares(SecretForces x, int side) {
        StringBuilder b = new StringBuilder();
        for (int k = 0; k < x.book(side, -1); k++) {
            b.append(x.best(side, k, 0)).append('/').append(x.best(side, k, 1)).append(' ');
        }
        return b.toString().trim();
    }

    private static void best() {
        Doc.says(Doc.TERMS, "the greatest row of fractions, the first of its BOOK first");
        SecretForces x = Edge.told("fields 1 1; forces 7 7; book 0 07 16 25 34 43 52; book 1 70 61 52 43 34 25");
        Due.same("all are as good", shares(x, 0), "1/1 0/1 0/1 0/1 0/1 0/1");
        Due.same("all are as good for side 1", shares(x, 1), "1/1 0/1 0/1 0/1 0/1 0/1");
        // by 11 side 0 gains 1, whatever is done; by 20 02 in halves one half
        x = Edge.told("fields 1 1; forces 2 1; book 0 20 11 02; book 1 10 01");
        Due.same("11 alone is best", shares(x, 0), "0/1 1/1 0/1");
        Due.same("side 1 loses 1 by all", shares(x, 1), "1/1 0/1");
        // gains 1 0, 0 1, 0 1: the last two are as good
        x = Edge.told("fields 1 1; forces 4 3; book 0 04 31 40; book 1 03 30");
        Due.same("the sooner of two alike", shares(x, 0), "1/2 1/2 0/1");
        x = Edge.told("fields 1 1; forces 4 3; book 0 40 31 04; book 1 03 30");
        Due.same("in another order", shares(x, 0), "1/2 0/1 1/2");
        x = Edge.told("fields 1 1; forces 3 4; book 0 30 03; book 1 40 31 04");
        Due.same("of side 1", shares(x, 1), "1/2 0/1 1/2");
        // gains -1 -3, -1 1, -3 1: -1 is all that can be had, and 20 has one half at most
        x = Edge.told("fields 1 2; forces 2 2; ties 2; book 0 20 11 02; book 1 02 20");
        Due.same("as much of the first as can be", shares(x, 0), "1/2 1/2 0/1");
        x = Edge.told("fields 1 2; forces 2 2; ties 2; book 0 02 11 20; book 1 02 20");
        Due.same("in another order", shares(x, 0), "0/1 1/1 0/1");
        // gains 0 -4 2, -2 0 4, 4 0 0: 0 is all that can be had, not by 200, and 020 has 2 of 3 at most
        x = Edge.told("fields 1 2 3; forces 2 3; ties 1; book 0 200 020 011; book 1 201 012 120");
        Due.same("none of the first, then the second", shares(x, 0), "0/1 2/3 1/3");
        x = Edge.told("fields 1 2 3; forces 2 3; ties 1; book 0 011 020 200; book 1 201 012 120");
        Due.same("in another order", shares(x, 0), "1/1 0/1 0/1");

        Doc.says(23, "The BEST share of the k-th SPLIT of a BOOK, above, below");
        Due.same("halves", shares(halves(), 0) + ", " + shares(halves(), 1), "1/2 1/2, 1/2 1/2");
        x = Edge.told("fields 8; forces 7 0; book 0 7; book 1 0");
        Due.same("one against one", shares(x, 0) + ", " + shares(x, 1), "1/1, 1/1");
        x = fiveBySix();
        x.add(0, 0);
        Due.same("the sixth one has all", shares(x, 0), "0/1 0/1 0/1 0/1 0/1 1/1");
        Due.same("all six lose 2", shares(x, 1), "1/1 0/1 0/1 0/1 0/1 0/1");

        Doc.says(23, "none such");
        for (int k : new int[] {-1, 2, Edge.LEAST, Edge.MOST}) {
            Edge.refused("best(0, " + k + ", 0)", -1, y -> y.best(0, k, 0));
            Edge.refused("best(1, " + k + ", 1)", -1, y -> y.best(1, k, 1));
        }
        Edge.refused("a seventh of six", -1, BookEdges::sixOfZero, y -> y.best(0, 6, 1));
        Edge.refused("a third of two, where six are of side 0", -1, BookEdges::sixOfZero, y -> y.best(1, 2, 1));

        Doc.says(23, "others");
        for (int wrong : Edge.NOT_0_1) {
            Edge.refused("best(" + wrong + ", 0, 1)", -1, y -> y.best(wrong, 0, 1));
            Edge.refused("best(0, 0, " + wrong + ")", -1, y -> y.best(0, 0, wrong));
        }

        Doc.says(23, "a BOOK is empty");
        for (int side = 0; side < 2; side++) {
            int of = side;
            Edge.refused("its own", -1, () -> emptyBook(of), y -> y.best(of, 0, 1));
            Edge.refused("that of the other one", -1, () -> emptyBook(1 - of), y -> y.best(of, 0, 1));
            Edge.refused("both", -1, SecretForces::new, y -> y.best(of, 0, 1));
        }
    }

    private static void valueWith() {
        Doc.says(24, "VALUE, had the BOOK of a SIDE one SPLIT more, above, below");
        SecretForces x = fiveBySix();
        Edge.fraction("a sixth one", x.valueWith(0, 0, 0), x.valueWith(0, 0, 1), 2, 1);
        Edge.fraction("the value is as it was", x.value(0), x.value(1), 0, 1);
        Due.is("so is the book", x.book(0, -1), 5);
        x = Edge.told("fields 1 1; forces 2 1; book 0 02 20; book 1 01");
        Edge.fraction("of side 1", x.valueWith(1, 1, 0), x.valueWith(1, 1, 1), 1, 2);
        Edge.fraction("the value of before", x.value(0), x.value(1), 1, 1);
        x = Edge.told("fields 1 1; forces 2 1; book 0 11; book 1 01; ties 0");
        Edge.fraction("as good as before", x.valueWith(1, 1, 0), x.valueWith(1, 1, 1), 1, 1);

        Doc.says(24, "others");
        for (int i : new int[] {-1, 4, Edge.LEAST, Edge.MOST}) {
            Edge.refused("valueWith(0, " + i + ", 1)", -100, y -> y.valueWith(0, i, 1));
        }
        Edge.refused("valueWith(1, 3, 1)", -100, y -> y.valueWith(1, 3, 1));
        for (int wrong : Edge.NOT_0_1) {
            Edge.refused("valueWith(" + wrong + ", 1, 1)", -100, y -> y.valueWith(wrong, 1, 1));
            Edge.refused("valueWith(0, 1, " + wrong + ")", -100, y -> y.valueWith(0, 1, wrong));
        }

        Doc.says(24, "it is there");
        Edge.refused("the first one of it", -100, y -> y.valueWith(0, 3, 1));
        Edge.refused("the last one of it", -100, y -> y.valueWith(0, 0, 1));
        Edge.refused("of side 1", -100, y -> y.valueWith(1, 2, 1));

        Doc.says(24, "six are");
        Edge.refused("a seventh", -100, BookEdges::sixOfZero, y -> y.valueWith(0, 5, 1));
        Due.holds("the other one has room", sixOfZero().valueWith(1, 5, 1) >= 1);
        x = fiveBySix();
        Due.is("six of side 1 alone", x.valueWith(1, 0, 0), -100);

        Doc.says(24, "a BOOK is empty");
        for (int side = 0; side < 2; side++) {
            int of = side;
            Edge.refused("its own", -100, () -> emptyBook(of), y -> y.valueWith(of, 1, 1));
            Edge.refused("that of the other one", -100, () -> emptyBook(1 - of), y -> y.valueWith(of, 1, 1));
            Edge.refused("both", -100, SecretForces::new, y -> y.valueWith(of, 1, 1));
        }
    }

    private static void needless() {
        Doc.says(25, "The first k such that VALUE is the same without the k-th SPLIT of the BOOK of a SIDE");
        SecretForces x = Edge.told("fields 1 1; forces 2 1; book 0 20 02 11; book 1 01 10");
        Due.is("two of side 0 are, the first of them", x.needless(0), 0);
        Due.is("both of side 1 are", x.needless(1), 0);
        x = Edge.told("fields 1 1; forces 2 1; book 0 11 20 02; book 1 01 10");
        Due.is("not the first one", x.needless(0), 1);
        x = Edge.told("fields 1 3; forces 7 7; book 0 07 16 25 34 43 52; book 1 16 25 34 43 52 61");
        Due.is("of six, 07 is needed", x.needless(0), 1);
        x = Edge.told("fields 1 1; forces 2 1; book 0 11 02; book 1 01 10");
        Due.is("the last one", x.needless(0), 1);
        Due.is("the book stays", x.book(0, -1), 2);

        Doc.says(25, "there is none");
        Due.is("each is needed", halves().needless(0), -2);
        Due.is("each of side 1 too", halves().needless(1), -2);

        Doc.says(25, "(the only one is never so)");
        x = Edge.told("fields 8; forces 7 0; book 0 7; book 1 0");
        Due.is("of side 0", x.needless(0), -2);
        Due.is("of side 1", x.needless(1), -2);
        x = Edge.told("fields 1 1; forces 2 1; book 0 11; book 1 01 10");
        Due.is("one against two", x.needless(0), -2);
        Due.is("two against one", x.needless(1), 0);

        Doc.says(25, "others");
        for (int side : Edge.NOT_0_1) {
            Edge.refused("needless(" + side + ")", -1, y -> y.needless(side));
        }

        Doc.says(25, "a BOOK is empty");
        for (int side = 0; side < 2; side++) {
            int of = side;
            Edge.refused("its own", -1, () -> emptyBook(of), y -> y.needless(of));
            Edge.refused("that of the other one", -1, () -> emptyBook(1 - of), y -> y.needless(of));
            Edge.refused("both", -1, SecretForces::new, y -> y.needless(of));
        }
    }
}
