import java.util.NoSuchElementException;

/** Edges of promises 8 to 18, and of SPLITS, GAINS, SHAPES, of those WORSE, BEATEN and LEFT. */
final class SplitEdges {
    private SplitEdges() {
    }

    static void all() {
        splits();
        split();
        number();
        gain();
        shapes();
        shape();
        ways();
        worse();
        left();
        rounds();
        safe();
    }

    /** K FIELDS of WORTH 1, as many FORCES. */
    private static SecretForces plain(int fields, int zero, int one) {
        return Edge.told("fields" + " 1".repeat(fields) + "; forces " + zero + " " + one);
    }

    /** How many SPLITS there are of so many FORCES over so many FIELDS. */
    private static int manyOf(int fields, int forces) {
        switch (fields) {
            case 1: return 1;
            case 2: return forces + 1;
            case 3: return (forces + 1) * (forces + 2) / 2;
            default: return (forces + 1) * (forces + 2) * (forces + 3) / 6;
        }
    }

    private static void splits() {
        Doc.says(8, "SPLITS of a SIDE: how many");
        for (int fields = 1; fields <= 4; fields++) {
            for (int forces = 0; forces <= 7; forces++) {
                SecretForces x = plain(fields, forces, 7 - forces);
                Due.is("side 0: " + forces + " over " + fields, x.splits(0), manyOf(fields, forces));
                Due.is("side 1: " + (7 - forces) + " over " + fields, x.splits(1), manyOf(fields, 7 - forces));
            }
        }

        Doc.says(8, "no such SIDE");
        for (int side : Edge.NOT_0_1) {
            Edge.refused("splits(" + side + ")", -1, x -> x.splits(side));
        }
    }

    private static int digits(int eights) {
        int sum = 0;
        for (int rest = eights; rest > 0; rest /= 8) {
            sum += rest % 8;
        }
        return sum;
    }

    /** 1 if split throws what it may throw, else 0. */
    private static int none(SecretForces x, int side, int i) {
        try {
            x.split(side, i);
            return 0;
        } catch (NoSuchElementException e) {
            return e.getClass() == NoSuchElementException.class ? 1 : 2;
        }
    }

    private static void split() {
        Doc.says(Doc.TERMS, "SPLITS are numbered from 0 on, by these, the least first");
        for (int fields = 1; fields <= 4; fields++) {
            for (int forces = 0; forces <= 7; forces++) {
                SecretForces x = plain(fields, 7 - forces, forces);
                int most = manyOf(fields, forces) - 1;
                String what = forces + " over " + fields;
                Due.is("the first of " + what, x.split(1, 0), forces);
                Due.is("the last of " + what, x.split(1, most), forces << 3 * (fields - 1));
                int before = -1;
                for (int i = 0; i <= most; i++) {
                    int now = x.split(1, i);
                    Due.holds("split " + i + " of " + what, now > before && digits(now) == forces);
                    before = now;
                }
            }
        }

        Doc.says(Doc.TERMS, "of each FIELD how many, 0 at least, all its FORCES together");
        SecretForces two = plain(2, 7, 0);
        for (int i = 0; i < 8; i++) {
            Due.is(i + " and " + (7 - i), two.split(0, i), 8 * i + 7 - i);
        }
        Due.is("none on all", two.split(1, 0), 0);

        Doc.says(9, "The i-th, read by eights");
        SecretForces x = new SecretForces();
        Due.is("005", x.split(0, 0), 5);
        Due.is("014", x.split(0, 1), 8 + 4);
        Due.is("500", x.split(0, 20), 5 * 64);
        Due.is("400", x.split(1, 14), 4 * 64);

        Doc.says(9, "none such");
        for (int i : new int[] {-1, 4, Edge.LEAST, Edge.MOST}) {
            Edge.refused("split(0, " + i + ")", 1, y -> none(y, 0, i));
        }
        for (int i : new int[] {-1, 3, Edge.LEAST, Edge.MOST}) {
            Edge.refused("split(1, " + i + ")", 1, y -> none(y, 1, i));
        }
        Edge.refused("the 121st", 1, () -> plain(4, 7, 7), y -> none(y, 1, 120));
        Due.is("the 120th", plain(4, 7, 7).split(1, 119), 7 * 512);
        Edge.refused("a second one of one field", 1, () -> plain(1, 7, 7), y -> none(y, 0, 1));
        Edge.refused("a second one of no forces", 1, () -> plain(4, 0, 7), y -> none(y, 0, 1));

        Doc.says(9, "others");
        for (int side : Edge.NOT_0_1) {
            Edge.refused("split(" + side + ", 0)", 1, y -> none(y, side, 0));
            Edge.refused("split(" + side + ", -1)", 1, y -> none(y, side, -1));
        }
    }

    private static void number() {
        Doc.says(10, "The number of a SPLIT that is read so");
        for (int fields = 1; fields <= 4; fields++) {
            for (int forces = 0; forces <= 7; forces++) {
                SecretForces x = plain(fields, forces, 0);
                int most = manyOf(fields, forces) - 1;
                for (int i = 0; i <= most; i++) {
                    Due.is("number of split " + i, x.number(0, x.split(0, i)), i);
                }
                Due.is("no forces", x.number(1, 0), 0);
            }
        }

        Doc.says(10, "it is none");
        // 03 12 21 30
        for (int eights : new int[] {2, 4, 0, -1, -3, 9, 11, 16, 18, 23, 25, 64 + 2, 64 + 3, 3 * 64, 4096 + 3,
            Edge.LEAST, Edge.LEAST + 3, Edge.MOST}) {
            Edge.refused("number(0, " + eights + ")", -1, x -> x.number(0, eights));
        }
        Edge.refused("one of the other side", -1, x -> x.number(1, 3));
        Due.is("it is that of side 0", Edge.laden().number(0, 3), 0);
        Edge.refused("two digits of one field", -1, () -> plain(1, 7, 7), x -> x.number(0, 8 + 6));
        Edge.refused("five digits of four fields", -1, () -> plain(4, 7, 7), x -> x.number(0, 4096 + 6));
        Edge.refused("7 of no forces", -1, () -> plain(4, 0, 0), x -> x.number(0, 7));

        Doc.says(10, "others");
        for (int side : Edge.NOT_0_1) {
            Edge.refused("number(" + side + ", 3)", -1, x -> x.number(side, 3));
        }
    }

    private static void gain() {
        Doc.says(Doc.TERMS,
            "of each FIELD its WORTH, if it has more there, less it, if it has fewer, by TIES if as many (none, WORTH, less WORTH)");
        for (int ties = 0; ties < 3; ties++) {
            for (int zero = 0; zero <= 7; zero++) {
                SecretForces x = Edge.told("fields 8; ties " + ties + "; forces " + zero + " 3");
                int even = ties == 0 ? 0 : ties == 1 ? 8 : -8;
                Due.is(zero + " against 3, ties " + ties, x.gain(0, 0), zero > 3 ? 8 : zero < 3 ? -8 : even);
            }
        }
        // 012 against 210: fewer, as many, more
        SecretForces x = Edge.told("fields 1 2 4; forces 3 3; ties 0");
        int one = x.number(0, 0012);
        int other = x.number(1, 0210);
        Due.is("4 - 1", x.gain(one, other), 3);
        x.ties(1);
        Due.is("4 - 1 + 2", x.gain(one, other), 5);
        x.ties(2);
        Due.is("4 - 1 - 2", x.gain(one, other), 1);

        Doc.says(Doc.TERMS, "GAIN of SIDE 1 is as much below 0");
        int[] byTies = {3, 5, 1};
        x = Edge.told("fields 1 2 4; forces 3 3");
        for (int ties = 0; ties < 3; ties++) {
            x.ties(ties);
            x.plan(0, one, 1);
            x.plan(1, other, 1);
            Due.is("of side 0, ties " + ties, x.both(0), byTies[ties]);
        }
        for (int ties = 0; ties < 3; ties++) {
            SecretForces y = Edge.told("fields 8; forces 3 3; ties " + ties);
            Due.is("safe, ties " + ties, y.safe(0, 0) + y.safe(1, 0), 0);
            y.note(0, 0);
            y.note(1, 0);
            Due.is("seen, ties " + ties, y.against(0, 1) + y.against(1, 1), 0);
            Due.is("gain, ties " + ties, y.against(1, 1), -y.gain(0, 0));
        }

        Doc.says(11, "GAIN of SIDE 0 by two SPLITS, by numbers");
        x = plain(4, 7, 7);
        Due.is("the first ones", x.gain(0, 0), 0);
        Due.is("the last ones", x.gain(119, 119), 0);
        // 7000 and 0007: more, as many twice, fewer
        Due.is("the last and the first one", x.gain(119, 0), 0);
        // 15 begin with 0, four with 10, then 1102 and 1111
        Due.is("the most", Edge.told("fields 2 2 2 2; forces 4 0").gain(20, 0), 8);
        Due.is("the least", Edge.told("fields 2 2 2 2; forces 0 4").gain(0, 20), -8);
        Due.is("-1 is a gain too", Edge.told("fields 1; forces 0 1").gain(0, 0), -1);

        Doc.says(11, "none such");
        for (int i : new int[] {-1, 4, Edge.LEAST, Edge.MOST}) {
            Edge.refused("gain(" + i + ", 0)", -100, y -> y.gain(i, 0));
        }
        for (int i : new int[] {-1, 3, Edge.LEAST, Edge.MOST}) {
            Edge.refused("gain(0, " + i + ")", -100, y -> y.gain(0, i));
        }
        Due.is("the last of each", Edge.laden().gain(3, 2), 1 + 2);
        Edge.refused("gain(-1, -1)", -100, y -> y.gain(-1, -1));
    }

    private static void shapes() {
        Doc.says(12, "SHAPES of a SIDE: how many");
        Due.is("one field", plain(1, 7, 0).shapes(0), 1);
        Due.is("no forces", plain(4, 0, 7).shapes(0), 1);
        Due.is("one over four", plain(4, 1, 0).shapes(0), 1);
        // 7 in up to four parts: 1 of one, 3 of two, 4 of three, 3 of four
        Due.is("7 over four", plain(4, 7, 7).shapes(1), 11);
        Due.is("no fields alike: each is one", Edge.told("fields 1 2 5; forces 7 1").shapes(0), 36);
        Due.is("no fields alike, side 1", Edge.told("fields 1 2 5; forces 7 1").shapes(1), 3);

        Doc.says(12, "no such SIDE");
        for (int side : Edge.NOT_0_1) {
            Edge.refused("shapes(" + side + ")", -1, x -> x.shapes(side));
        }
    }

    private static void shape() {
        Doc.says(Doc.TERMS, "ALIKE are FIELDS of like WORTH");
        SecretForces x = Edge.told("fields 1 2 3; forces 1 1");
        for (int i = 0; i < 3; i++) {
            Due.same("no fields alike, " + i, of(x, 0, i), "1 " + i + " " + (i + 1));
        }
        x = Edge.told("fields 2 2 2 2; forces 1 0");
        for (int i = 0; i < 4; i++) {
            Due.same("all fields alike, " + i, of(x, 0, i), "4 0 1");
        }
        Due.same("no forces", of(x, 1, 0), "1 0 1");
        // 0001 0010 0100 1000: the outer two and the inner two
        x = Edge.told("fields 1 3 3 1; forces 1 0");
        Due.same("0001", of(x, 0, 0), "2 0 1");
        Due.same("0010", of(x, 0, 1), "2 1 2");
        Due.same("0100", of(x, 0, 2), "2 1 2");
        Due.same("1000", of(x, 0, 3), "2 0 2");

        Doc.says(13, "how many SPLITS it has, 1: the first, 2: how many SPLITS of the SIDE, up to this one, begin a SHAPE");
        x = plain(4, 6, 6);
        Due.is("all orders of 0123", x.shape(0, x.number(0, 03210), 0), 24);
        Due.is("the first one", x.shape(0, x.number(0, 03210), 1), x.number(0, 0123));
        Due.is("up to the last one: all shapes", x.shape(1, x.splits(1) - 1, 2), x.shapes(1));
        Due.is("up to the first one", x.shape(1, 0, 2), 1);
        SecretForces most = plain(4, 7, 7);
        Due.same("the last of 120", of(most, 1, 119), "4 0 11");
        // 0006 0015 0024 0033 0042: the fifth begins none
        Due.is("the fourth begins one", x.shape(0, 3, 2), 4);
        Due.is("the fifth does not", x.shape(0, 4, 2), 4);

        Doc.says(13, "none such");
        for (int i : new int[] {-1, 4, Edge.LEAST, Edge.MOST}) {
            Edge.refused("shape(0, " + i + ", 0)", -1, y -> y.shape(0, i, 0));
        }
        Edge.refused("shape(1, 3, 2)", -1, y -> y.shape(1, 3, 2));
        Due.is("the last one", Edge.laden().shape(1, 2, 2), 3);

        Doc.says(13, "others");
        for (int what : Edge.NOT_0_1_2) {
            Edge.refused("shape(0, 0, " + what + ")", -1, y -> y.shape(0, 0, what));
        }
        for (int side : Edge.NOT_0_1) {
            Edge.refused("shape(" + side + ", 0, 0)", -1, y -> y.shape(side, 0, 0));
        }
    }

    private static String of(SecretForces x, int side, int i) {
        return x.shape(side, i, 0) + " " + x.shape(side, i, 1) + " " + x.shape(side, i, 2);
    }

    private static void ways(String call, int many, int fields, int each, long want) {
        Due.is(call, new SecretForces().ways(many, fields, each), want);
    }

    private static void ways() {
        Doc.says(14, "In how many ways a SIDE could part so many FORCES");
        ways("just enough", 3, 3, 1, 1);
        ways("one too few", 2, 3, 1, 0);
        ways("one over", 4, 3, 1, 3);
        ways("3 of one field by 3", 3, 1, 3, 1);
        ways("2 of one field by 3", 2, 1, 3, 0);
        ways("24 would be needed", 20, 8, 3, 0);
        ways("18 of 20", 20, 6, 3, 21);
        ways("16 of 20", 20, 8, 2, 330);
        for (int fields = 1; fields <= 4; fields++) {
            for (int forces = 0; forces <= 7; forces++) {
                ways(forces + " over " + fields, forces, fields, 0, manyOf(fields, forces));
            }
        }

        Doc.says(14, "(0 to 20)");
        ways("0", 0, 8, 0, 1);
        ways("0, one each", 0, 1, 1, 0);
        ways("20", 20, 8, 0, 888030);
        ways("20 of one field", 20, 1, 0, 1);

        Doc.says(14, "(1 to 8)");
        ways("1", 7, 1, 0, 1);
        ways("8", 1, 8, 0, 8);

        Doc.says(14, "(0 to 3)");
        ways("0", 2, 2, 0, 3);
        ways("3", 6, 2, 3, 1);

        Doc.says(14, "others");
        int[][] wrong = {{-1, 1, 0}, {21, 1, 0}, {Edge.LEAST, 1, 0}, {Edge.MOST, 1, 0}, {1, 0, 0}, {1, 9, 0},
            {1, -1, 0}, {1, Edge.LEAST, 0}, {1, Edge.MOST, 0}, {1, 1, -1}, {1, 1, 4}, {20, 1, 4}, {1, 1, Edge.LEAST},
            {1, 1, Edge.MOST}, {20, 8, 4}, {0, 0, 0}};
        for (int[] w : wrong) {
            Edge.refused("ways(" + w[0] + ", " + w[1] + ", " + w[2] + ")", -1, x -> x.ways(w[0], w[1], w[2]));
        }
    }

    /** Gains of 03: 1 0, 12: 2 1, 21: 1 2, 30: 0 1 against 01, 10. */
    private static SecretForces fourByTwo() {
        return Edge.told("fields 1 1; forces 3 1");
    }

    private static void worse() {
        Doc.says(Doc.TERMS, "against each SPLIT of the other one its GAIN is no more, against some less");
        SecretForces x = fourByTwo();
        Due.is("03 is worse than 12 and than 21", x.worse(0, 0, false), 1);
        Due.is("30 too, though 12 gains but as much against 10", x.worse(0, 3, false), 1);
        x = Edge.told("fields 1 1; forces 1 2");
        Due.is("02 of side 1 is worse than 11", x.worse(1, 0, false), 1);
        Due.is("so is 20", x.worse(1, 2, false), 1);
        Due.is("11 is not", x.worse(1, 1, false), -2);
        Due.is("than the first one", Edge.told("fields 1 7; forces 1 1").worse(0, 1, false), 0);
        Due.is("than the first one, side 1", Edge.told("fields 1 7; forces 1 1").worse(1, 1, false), 0);
        x = Edge.told("fields 1 1; forces 2 1; ties 2");
        for (int i = 0; i < 3; i++) {
            Due.is("gains are all the same: " + i + " is not worse", x.worse(0, i, false), -2);
        }

        Doc.says(Doc.TERMS, "BEATEN, if against each it is less");
        x = fourByTwo();
        Due.is("03 is beaten by 12", x.worse(0, 0, true), 1);
        Due.is("30 by 21 alone", x.worse(0, 3, true), 2);
        x = Edge.told("fields 1 1; forces 2 1");
        Due.is("02 is worse than 11", x.worse(0, 0, false), 1);
        Due.is("not beaten: as much against 01", x.worse(0, 0, true), -2);
        x = Edge.told("fields 7 1; forces 1 1");
        Due.is("of side 1 too", x.worse(1, 0, true), 1);
        Due.is("10 is not", x.worse(1, 1, true), -2);
        Due.is("by the first one", Edge.told("fields 1 7; forces 1 1").worse(0, 1, true), 0);

        Doc.says(15, "none");
        x = fourByTwo();
        for (int i = 1; i <= 2; i++) {
            Due.is("than none, " + i, x.worse(0, i, false), -2);
            Due.is("by none, " + i, x.worse(0, i, true), -2);
        }
        Due.is("the only one is not worse than itself", plain(1, 7, 7).worse(0, 0, false), -2);
        Due.is("nor beaten by itself", plain(1, 7, 7).worse(1, 0, true), -2);

        Doc.says(15, "none such");
        for (int i : new int[] {-1, 4, Edge.LEAST, Edge.MOST}) {
            Edge.refused("worse(0, " + i + ", false)", -1, y -> y.worse(0, i, false));
            Edge.refused("worse(0, " + i + ", true)", -1, y -> y.worse(0, i, true));
        }
        Edge.refused("worse(1, 3, true)", -1, y -> y.worse(1, 3, true));
        for (int side : Edge.NOT_0_1) {
            Edge.refused("worse(" + side + ", 0, false)", -1, y -> y.worse(side, 0, false));
        }
    }

    private static String leftOf(SecretForces x, int side) {
        StringBuilder b = new StringBuilder();
        b.append(x.left(side, -1)).append(':');
        for (int i = 0; i < x.left(side, -1); i++) {
            b.append(' ').append(x.left(side, i));
        }
        return b.toString();
    }

    private static void left() {
        Doc.says(Doc.TERMS, "all that are BEATEN by one that is left (against those of the other SIDE that are left) go");
        SecretForces x = fourByTwo();
        Due.same("03 and 30 go", leftOf(x, 0), "2: 1 2");
        Due.same("none of side 1", leftOf(x, 1), "2: 0 1");
        // 02: 0 1 1, 11: -1 0 1, 20: -1 -1 0; 11 is beaten when 20 of the other side has gone
        x = Edge.told("fields 1 2; forces 2 2");
        Due.is("11 is not beaten at first", x.worse(0, 1, true), -2);
        Due.same("02 alone", leftOf(x, 0) + ", " + leftOf(x, 1), "1: 0, 1: 0");
        x = Edge.told("fields 1 1; forces 2 1");
        Due.same("those that are but worse stay", leftOf(x, 0), "3: 0 1 2");

        Doc.says(16, "(i NONE)");
        Due.is("one", plain(1, 7, 7).left(0, -1), 1);
        // ties are side 1's: whatever it does, it gains all
        Due.is("all of 120", Edge.told("fields 1 1 1 1; forces 0 7; ties 2").left(1, -1), 120);
        Due.is("all: nobody has forces against one", plain(4, 0, 1).left(1, -1), 4);

        Doc.says(16, "or the i-th");
        x = plain(4, 0, 1);
        for (int i = 0; i < 4; i++) {
            Due.is("left(1, " + i + ")", x.left(1, i), i);
        }
        x = Edge.told("fields 1 1 1 1; forces 0 7; ties 2");
        Due.is("the 120th", x.left(1, 119), 119);
        Due.is("no 121st", x.left(1, 120), -1);
        x = fourByTwo();
        Due.is("the first one", x.left(0, 0), 1);
        Due.is("the last one", x.left(0, 1), 2);

        Doc.says(16, "none such");
        for (int i : new int[] {2, 3, -2, Edge.LEAST, Edge.MOST}) {
            Edge.refused("left(0, " + i + ")", -1, SplitEdges::fourByTwo, y -> y.left(0, i));
        }
        Edge.refused("left(0, 1) of one", -1, () -> plain(1, 2, 2), y -> y.left(0, 1));

        Doc.says(16, "others");
        for (int side : Edge.NOT_0_1) {
            Edge.refused("left(" + side + ", -1)", -1, y -> y.left(side, -1));
            Edge.refused("left(" + side + ", 0)", -1, y -> y.left(side, 0));
        }
        newlyLeft();
    }

    /** What was asked before does not stand in the way when all is told anew. */
    private static void newlyLeft() {
        Doc.says(16, "Of those LEFT, how many");
        SecretForces x = fourByTwo();
        Due.same("at first", leftOf(x, 0), "2: 1 2");
        x.ties(2);
        // 03: 0 0, 12: 2 0, 21: 0 2, 30: 0 0
        Due.same("by other ties", leftOf(x, 0), "4: 0 1 2 3");
        x.ties(0);
        x.forces(0, 2);
        Due.same("by other forces", leftOf(x, 0), "3: 0 1 2");
        x.lose();
        Due.same("by a field less", leftOf(x, 0), "1: 0");
        x.field(2);
        x.forces(1, 2);
        Due.same("by another field", leftOf(x, 0), "1: 0");
        Due.is("rounds", x.rounds(), 2);
        Due.is("text", Due.tell(x, "fields 1 1; forces 3 1"), 2);
        Due.same("by a text", leftOf(x, 0), "2: 1 2");
        Due.is("a fault", Due.tell(x, "ties 2; ties 3"), -2 - (8 * 13 + 2));
        Due.same("not by a fault", leftOf(x, 0), "2: 1 2");
        x.forces(0, 8);
        x.ties(3);
        Due.same("not by refused calls", leftOf(x, 0), "2: 1 2");
    }

    private static void rounds() {
        Doc.says(17, "How often of both SIDES some went, till those are LEFT");
        Due.is("none go", Edge.told("fields 1 1; forces 2 1").rounds(), 0);
        Due.is("one of each", plain(1, 7, 7).rounds(), 0);
        Due.is("of side 0 alone", fourByTwo().rounds(), 1);
        Due.is("of side 1 alone", Edge.told("fields 1 1; forces 1 3").rounds(), 1);
        Due.is("of both at once, once", Edge.told("fields 2 1; forces 1 1").rounds(), 1);

        Doc.says(Doc.TERMS, "of both SIDES at once, again and again, till none is");
        // each time the worst one of both goes; one side behind the other would be through sooner
        for (int forces = 0; forces <= 7; forces++) {
            SecretForces x = Edge.told("fields 1 2; forces " + forces + " " + forces);
            Due.is("rounds of " + forces, x.rounds(), forces);
            Due.same("left of " + forces, leftOf(x, 0) + ", " + leftOf(x, 1), "1: 0, 1: 0");
        }
    }

    private static void safe() {
        Doc.says(18, "What a SPLIT gains for its SIDE at least, against any");
        SecretForces x = fourByTwo();
        int[] want = {0, 1, 1, 0};
        for (int i = 0; i < 4; i++) {
            Due.is("safe(0, " + i + ")", x.safe(0, i), want[i]);
        }
        Due.is("of side 1", x.safe(1, 0), -2);
        Due.is("of side 1, the last one", x.safe(1, 1), -2);
        Due.is("the least of all", Edge.told("fields 8; forces 0 7").safe(0, 0), -8);
        Due.is("the most of all", Edge.told("fields 8; forces 0 7").safe(1, 0), 8);
        Due.is("-1 is an answer too", Edge.told("fields 1; forces 0 1").safe(0, 0), -1);

        Doc.says(18, "(i NONE)");
        Due.is("the greatest", x.safe(0, -1), 1);
        Due.is("the greatest of side 1", x.safe(1, -1), -2);
        Due.is("-8", Edge.told("fields 8; forces 0 7").safe(0, -1), -8);
        Due.is("8", Edge.told("fields 8; forces 0 7").safe(1, -1), 8);
        // the last one is the best: 10 gains 6 and 0
        Due.is("that of the last one", Edge.told("fields 7 1; forces 1 1").safe(0, -1), 0);

        Doc.says(18, "others");
        for (int i : new int[] {-2, 4, Edge.LEAST, Edge.MOST}) {
            Edge.refused("safe(0, " + i + ")", -100, y -> y.safe(0, i));
        }
        Edge.refused("safe(1, 3)", -100, y -> y.safe(1, 3));
        Due.is("the last one", Edge.told("fields 1 2; forces 3 2; ties 1").safe(1, 2), -3);
        for (int side : Edge.NOT_0_1) {
            Edge.refused("safe(" + side + ", 0)", -100, y -> y.safe(side, 0));
            Edge.refused("safe(" + side + ", -1)", -100, y -> y.safe(side, -1));
        }
    }
}
