/** Edges of promises 26 to 34, and of PLANS, WEIGHTS, HOLDS, REPLIES and EVEN ones. */
final class PlanEdges {
    private static final String ALL_EIGHT = "07 weight 99 16 weight 99 25 weight 99 34 weight 99"
        + " 43 weight 99 52 weight 99 61 weight 99 70 weight 99";

    private PlanEdges() {
    }

    static void all() {
        plan();
        planRefused();
        entry();
        hold();
        reply();
        meet();
        evenHold();
        evenShare();
        both();
        mean();
    }

    /** Eight of SIDE 0 (SPLITS 0, 20, 1 to 6), one turn drawn, beside what else is there. */
    private static SecretForces eightOfZero() {
        SecretForces x = Edge.laden("fields 1 1 1; forces 5 4");
        for (int i = 1; i <= 6; i++) {
            x.plan(0, i, 10 * i);
        }
        x.draw(0, true);
        return x;
    }

    static SecretForces emptyPlan(int side) {
        SecretForces x = Edge.laden();
        x.plan(side, 0, 0);
        x.plan(side, x.splits(side) - 1, 0);
        return x;
    }

    private static String entries(SecretForces x, int side) {
        StringBuilder b = new StringBuilder();
        for (int k = 0; k < x.entry(side, -1, 0); k++) {
            b.append(x.entry(side, k, 0)).append('*').append(x.entry(side, k, 1)).append(' ');
        }
        return b.toString().trim();
    }

    private static void plan() {
        Doc.says(Doc.TERMS, "PLANS: up to 8 unlike SPLITS of each SIDE, in order, with WEIGHTS 1 to 99");
        SecretForces x = new SecretForces();
        for (int side = 0; side < 2; side++) {
            for (int k = 0; k < 8; k++) {
                Due.is("plan", x.plan(side, 14 - k, k % 2 == 0 ? 1 : 99), k + 1);
            }
            Due.is("a ninth", x.plan(side, 0, 1), -1);
            Due.same("in order", entries(x, side), "14*1 13*99 12*1 11*99 10*1 9*99 8*1 7*99");
        }

        Doc.says(26, "An ENTRY of a PLAN: a SPLIT with a WEIGHT");
        x = new SecretForces();
        Due.is("the first split, the least weight", x.plan(0, 0, 1), 1);
        Due.is("the last split, the most", x.plan(0, 20, 99), 2);
        Due.is("of side 1", x.plan(1, 14, 99), 1);
        Due.same("entries", entries(x, 0) + ", " + entries(x, 1), "0*1 20*99, 14*99");

        Doc.says(26, "of one that is there its WEIGHT anew");
        Due.is("the first one", x.plan(0, 0, 99), 2);
        Due.is("the last one", x.plan(0, 20, 1), 2);
        Due.same("entries", entries(x, 0), "0*99 20*1");
        x = eightOfZero();
        Due.is("of eight", x.plan(0, 6, 99), 8);
        Due.same("where they were", entries(x, 0), "0*2 20*3 1*10 2*20 3*30 4*40 5*50 6*99");

        Doc.says(26, "0: it goes");
        Due.is("the first of eight", x.plan(0, 0, 0), 7);
        Due.is("one in the middle", x.plan(0, 3, 0), 6);
        Due.is("the last one", x.plan(0, 6, 0), 5);
        Due.same("the others", entries(x, 0), "20*3 1*10 2*20 4*40 5*50");
        Due.is("there is room again: behind all", x.plan(0, 0, 7), 6);
        Due.same("entries", entries(x, 0), "20*3 1*10 2*20 4*40 5*50 0*7");
        x = new SecretForces();
        x.plan(1, 3, 5);
        Due.is("the only one", x.plan(1, 3, 0), 0);
        Due.is("none is there", x.entry(1, 0, 0), -1);
        Due.is("it may come again", x.plan(1, 3, 6), 1);
        // shares are by the weights of those that are there: nothing of those that went
        Edge.fraction("it has all", x.evenShare(1, 3, 0), x.evenShare(1, 3, 1), 1, x.shape(1, 3, 0));
    }

    private static void planRefused() {
        Doc.says(26, "others");
        for (int weight : new int[] {-1, 100, Edge.LEAST, Edge.MOST}) {
            Edge.refused("a weight " + weight, -1, y -> y.plan(0, 1, weight));
            Edge.refused("a weight " + weight + " of one that is there", -1, y -> y.plan(0, 0, weight));
        }
        for (int i : new int[] {-1, 4, Edge.LEAST, Edge.MOST}) {
            Edge.refused("plan(0, " + i + ", 1)", -1, y -> y.plan(0, i, 1));
            Edge.refused("plan(0, " + i + ", 0)", -1, y -> y.plan(0, i, 0));
        }
        Edge.refused("plan(1, 3, 1)", -1, y -> y.plan(1, 3, 1));
        for (int side : Edge.NOT_0_1) {
            Edge.refused("plan(" + side + ", 0, 1)", -1, y -> y.plan(side, 0, 1));
            Edge.refused("plan(" + side + ", 0, 0)", -1, y -> y.plan(side, 0, 0));
        }

        Doc.says(26, "eight there are");
        Due.is("there are", eightOfZero().entry(0, -1, 0), 8);
        Edge.refused("a ninth", -1, PlanEdges::eightOfZero, y -> y.plan(0, 7, 1));
        Due.is("the other one has room", eightOfZero().plan(1, 7, 1), 3);

        Doc.says(26, "none is there that could go");
        Edge.refused("of two", -1, y -> y.plan(0, 1, 0));
        Edge.refused("of eight", -1, PlanEdges::eightOfZero, y -> y.plan(0, 7, 0));
        Edge.refused("of none", -1, SecretForces::new, y -> y.plan(0, 0, 0));
        Edge.refused("it went before", -1, () -> emptyPlan(1), y -> y.plan(1, 0, 0));
    }

    private static void entry() {
        Doc.says(27, "what 0: the SPLIT, 1: its WEIGHT, 2: how often it was drawn by turns");
        SecretForces x = eightOfZero();
        Due.is("the first one", x.entry(0, 0, 0) * 100 + x.entry(0, 0, 1) * 10 + x.entry(0, 0, 2), 20);
        Due.is("the eighth one", x.entry(0, 7, 0) * 1000 + x.entry(0, 7, 1) * 10 + x.entry(0, 7, 2), 6601);
        x.draw(0, false);
        x.match(5);
        Due.is("not by chance", x.entry(0, 7, 2), 1);

        Doc.says(27, "(k NONE)");
        for (int what = 0; what <= 2; what++) {
            Due.is("eight, what " + what, eightOfZero().entry(0, -1, what), 8);
            Due.is("none, what " + what, new SecretForces().entry(1, -1, what), 0);
        }

        Doc.says(27, "none such");
        for (int what = 0; what <= 2; what++) {
            int of = what;
            Edge.refused("a ninth of eight", -1, PlanEdges::eightOfZero, y -> y.entry(0, 8, of));
            Edge.refused("a third of two", -1, y -> y.entry(1, 2, of));
            Edge.refused("the first of none", -1, SecretForces::new, y -> y.entry(0, 0, of));
            for (int k : new int[] {-2, Edge.LEAST, Edge.MOST}) {
                Edge.refused("entry(0, " + k + ", " + of + ")", -1, y -> y.entry(0, k, of));
            }
        }

        Doc.says(27, "others");
        for (int what : Edge.NOT_0_1_2) {
            Edge.refused("entry(0, 0, " + what + ")", -1, y -> y.entry(0, 0, what));
            Edge.refused("entry(0, -1, " + what + ")", -1, y -> y.entry(0, -1, what));
        }
        for (int side : Edge.NOT_0_1) {
            Edge.refused("entry(" + side + ", 0, 1)", -1, y -> y.entry(side, 0, 1));
            Edge.refused("entry(" + side + ", -1, 1)", -1, y -> y.entry(side, -1, 1));
        }
    }

    private static void hold() {
        Doc.says(Doc.TERMS, "HOLD of a PLAN: the least it gains for its SIDE against any SPLIT of the other one");
        // 07: 1, 16 to 61: 2, 70: 1 against 00
        SecretForces x = Edge.told("fields 1 1; forces 7 0; plan 0 " + ALL_EIGHT + "; plan 1 00 weight 99");
        Edge.fraction("eight of 99 each: 14 of 8", x.hold(0, 0), x.hold(0, 1), 7, 4);
        Edge.fraction("of side 1", x.hold(1, 0), x.hold(1, 1), -2, 1);
        x = Edge.told("fields 1 1; forces 7 0; plan 0 07 weight 1 16 weight 99");
        Edge.fraction("1 and 99", x.hold(0, 0), x.hold(0, 1), 199, 100);
        x = Edge.told("fields 8; forces 0 7; plan 0 0 weight 99; plan 1 7 weight 98");
        Edge.fraction("the least of all", x.hold(0, 0), x.hold(0, 1), -8, 1);
        Edge.fraction("the most of all", x.hold(1, 0), x.hold(1, 1), 8, 1);
        x = Edge.told("fields 1; forces 0 1; plan 0 0 weight 3");
        Edge.fraction("-1, which is not refused", x.hold(0, 0), x.hold(0, 1), -1, 1);
        x = Edge.told("fields 1 1; forces 1 1; plan 0 01 weight 4");
        Edge.fraction("0", x.hold(0, 0), x.hold(0, 1), 0, 1);

        Doc.says(28, "others");
        for (int wrong : Edge.NOT_0_1) {
            Edge.refused("hold(" + wrong + ", 1)", -100, y -> y.hold(wrong, 1));
            Edge.refused("hold(0, " + wrong + ")", -100, y -> y.hold(0, wrong));
        }

        Doc.says(28, "no ENTRIES");
        for (int side = 0; side < 2; side++) {
            int of = side;
            Edge.refused("never any", -100, SecretForces::new, y -> y.hold(of, 1));
            Edge.refused("all went", -100, () -> emptyPlan(of), y -> y.hold(of, 1));
            Due.holds("the other one has some", emptyPlan(1 - of).hold(of, 1) >= 1);
        }
    }

    private static void reply() {
        Doc.says(Doc.TERMS, "REPLY: that SPLIT, the first");
        // against 01, 10: 02 gains 1 0, 11 gains 1 1, 20 gains 0 1
        Due.is("the last one", Edge.told("fields 1 1; forces 2 1; plan 0 02 weight 1").reply(0), 1);
        Due.is("the first one", Edge.told("fields 1 1; forces 2 1; plan 0 20 weight 1").reply(0), 0);
        Due.is("both are as good", Edge.told("fields 1 1; forces 2 1; plan 0 11 weight 1").reply(0), 0);
        Due.is("both again", Edge.told("fields 1 1; forces 2 1; plan 0 02 weight 9 20 weight 9").reply(0), 0);
        Due.is("02 by a little", Edge.told("fields 1 1; forces 2 1; plan 0 02 weight 99 20 weight 98").reply(0), 1);
        Due.is("02 and 11 are as good", Edge.told("fields 1 1; forces 2 1; plan 1 01 weight 1").reply(1), 0);
        Due.is("11 and 20 are", Edge.told("fields 1 1; forces 2 1; plan 1 10 weight 1").reply(1), 1);
        Due.is("but one is there", Edge.told("fields 1 1 1 1; forces 7 0; plan 0 7000 weight 1").reply(0), 0);
        Due.is("the 120th", Edge.told("fields 5 1 1 1; forces 6 7; plan 0 6000 weight 1").reply(0), 119);

        Doc.says(29, "others");
        for (int side : Edge.NOT_0_1) {
            Edge.refused("reply(" + side + ")", -1, y -> y.reply(side));
        }

        Doc.says(29, "no ENTRIES");
        for (int side = 0; side < 2; side++) {
            int of = side;
            Edge.refused("never any", -1, SecretForces::new, y -> y.reply(of));
            Edge.refused("all went", -1, () -> emptyPlan(of), y -> y.reply(of));
            Due.holds("the other one has some", emptyPlan(1 - of).reply(of) >= 0);
        }
    }

    private static void meet() {
        Doc.says(Doc.TERMS, "They MEET, if HOLDS of both are together 0");
        Due.is("1 and -1", Edge.told("fields 1 1; forces 2 1; plan 0 11 weight 5; plan 1 01 weight 3 10 weight 4").meet(), 1);
        Due.is("99 of 100 and -1", Edge.told("fields 1 1; forces 2 1; plan 0 11 weight 99 02 weight 1; plan 1 01 weight 9").meet(), 0);
        // side 1 gains 3 if both do the same, else 1: 5 of 3 by thirds
        Due.is("-5 of 3 and 5 of 3", Edge.told("fields 1 1 1; forces 1 1; ties 2; plan 0 001 weight 33 010 weight 33"
            + " 100 weight 33; plan 1 001 weight 1 010 weight 1 100 weight 1").meet(), 1);
        Due.is("a little beside it", Edge.told("fields 1 1 1; forces 1 1; ties 2; plan 0 001 weight 33 010 weight 33"
            + " 100 weight 34; plan 1 001 weight 1 010 weight 1 100 weight 1").meet(), 0);
        Due.is("0 and 0", Edge.told("fields 1 1; forces 1 1; plan 0 01 weight 1; plan 1 10 weight 99").meet(), 1);

        Doc.says(30, "a PLAN has no ENTRIES");
        Edge.refused("both", -1, SecretForces::new, SecretForces::meet);
        Edge.refused("that of side 0", -1, () -> emptyPlan(0), SecretForces::meet);
        Edge.refused("that of side 1", -1, () -> emptyPlan(1), SecretForces::meet);
    }

    private static void evenHold() {
        Doc.says(Doc.TERMS, "EVEN: each SPLIT of a PLAN gives its share in equal parts to all of its SHAPE");
        SecretForces x = Edge.told("fields 1 1; forces 2 1; plan 0 02 weight 1");
        Edge.fraction("halves", x.evenHold(0, 0), x.evenHold(0, 1), 1, 2);
        Edge.fraction("as it is", x.hold(0, 0), x.hold(0, 1), 0, 1);
        // against 001: 1 of 3 by that field (two of three times as many), both others
        x = Edge.told("fields 1 1 1; forces 2 1; ties 1; plan 0 011 weight 5");
        Edge.fraction("thirds", x.evenHold(0, 0), x.evenHold(0, 1), 7, 3);
        Edge.fraction("as it is", x.hold(0, 0), x.hold(0, 1), 1, 1);
        // against 0001: on that field 2 of 4, on each other one 6 of 4
        x = Edge.told("fields 2 2 2 2; forces 6 1; plan 0 0123 weight 1");
        Edge.fraction("all of 24", x.evenHold(0, 0), x.evenHold(0, 1), 5, 1);
        x = Edge.told("fields 2 1; forces 2 1; plan 0 02 weight 1");
        Edge.fraction("no fields alike: as it is", x.evenHold(0, 0), x.evenHold(0, 1), -1, 1);
        x = Edge.told("fields 8; forces 0 7; plan 0 0 weight 99; plan 1 7 weight 98");
        Edge.fraction("one field", x.evenHold(0, 0), x.evenHold(0, 1), -8, 1);
        Edge.fraction("one field, side 1", x.evenHold(1, 0), x.evenHold(1, 1), 8, 1);

        Doc.says(31, "others");
        for (int wrong : Edge.NOT_0_1) {
            Edge.refused("evenHold(" + wrong + ", 1)", -100, y -> y.evenHold(wrong, 1));
            Edge.refused("evenHold(0, " + wrong + ")", -100, y -> y.evenHold(0, wrong));
        }

        Doc.says(31, "no ENTRIES");
        for (int side = 0; side < 2; side++) {
            int of = side;
            Edge.refused("never any", -100, SecretForces::new, y -> y.evenHold(of, 1));
            Edge.refused("all went", -100, () -> emptyPlan(of), y -> y.evenHold(of, 1));
            Due.holds("the other one has some", emptyPlan(1 - of).evenHold(of, 1) >= 1);
        }
    }

    private static void evenShare() {
        Doc.says(32, "The share of a SPLIT of a SIDE, were its PLAN EVEN, above, below");
        SecretForces x = Edge.told("fields 2 2 2 2; forces 6 1; plan 0 0123 weight 1 0006 weight 98; plan 1 0001 weight 7");
        int last = x.number(0, 03210);
        Edge.fraction("1 of 99, in 24 parts", x.evenShare(0, last, 0), x.evenShare(0, last, 1), 1, 2376);
        Edge.fraction("98 of 99, in 4 parts", x.evenShare(0, 83, 0), x.evenShare(0, 83, 1), 49, 198);
        Edge.fraction("of none of its shapes", x.evenShare(0, 1, 0), x.evenShare(0, 1, 1), 0, 1);
        Edge.fraction("of side 1", x.evenShare(1, 3, 0), x.evenShare(1, 3, 1), 1, 4);
        x = Edge.told("fields 8; forces 5 4; plan 0 5 weight 99");
        Edge.fraction("all", x.evenShare(0, 0, 0), x.evenShare(0, 0, 1), 1, 1);
        x = Edge.told("fields 1 7; forces 7 7; plan 0 " + ALL_EIGHT);
        for (int i = 0; i < 8; i++) {
            Edge.fraction("one of eight", x.evenShare(0, i, 0), x.evenShare(0, i, 1), 1, 8);
        }
        x.plan(0, 7, 0);
        Edge.fraction("one that went", x.evenShare(0, 7, 0), x.evenShare(0, 7, 1), 0, 1);
        Edge.fraction("one of seven", x.evenShare(0, 6, 0), x.evenShare(0, 6, 1), 1, 7);
        x = Edge.told("fields 1 1 1 1; forces 7 7; plan 1 7000 weight 5");
        Edge.fraction("of 120, the first", x.evenShare(1, 0, 0), x.evenShare(1, 0, 1), 1, 4);
        Edge.fraction("of 120, the last", x.evenShare(1, 119, 0), x.evenShare(1, 119, 1), 1, 4);
        x = Edge.told("fields 1 1; forces 1 1; plan 0 01 weight 1 10 weight 98");
        Edge.fraction("two of one shape", x.evenShare(0, 0, 0), x.evenShare(0, 0, 1), 1, 2);

        Doc.says(32, "none such");
        for (int i : new int[] {-1, 4, Edge.LEAST, Edge.MOST}) {
            Edge.refused("evenShare(0, " + i + ", 1)", -1, y -> y.evenShare(0, i, 1));
        }
        Edge.refused("evenShare(1, 3, 1)", -1, y -> y.evenShare(1, 3, 1));

        Doc.says(32, "others");
        for (int wrong : Edge.NOT_0_1) {
            Edge.refused("evenShare(" + wrong + ", 0, 1)", -1, y -> y.evenShare(wrong, 0, 1));
            Edge.refused("evenShare(0, 0, " + wrong + ")", -1, y -> y.evenShare(0, 0, wrong));
        }

        Doc.says(32, "no ENTRIES");
        for (int side = 0; side < 2; side++) {
            int of = side;
            Edge.refused("never any", -1, SecretForces::new, y -> y.evenShare(of, 0, 1));
            Edge.refused("all went", -1, () -> emptyPlan(of), y -> y.evenShare(of, 0, 1));
            Due.holds("the other one has some", emptyPlan(1 - of).evenShare(of, 0, 1) >= 1);
        }
    }

    private static void both() {
        Doc.says(33, "What SIDE 0 gains on the whole by both PLANS, above, below");
        SecretForces x = Edge.told("fields 1 7; forces 7 7; plan 0 07 weight 99; plan 1 " + ALL_EIGHT);
        // more in field 1 gains 6, but against 07, one of eight
        Edge.fraction("42 of 8", x.both(0), x.both(1), 21, 4);
        // not in one text: it would have more than 300 bytes
        x = Edge.told("fields 1 7; forces 7 7; plan 0 " + ALL_EIGHT);
        for (int i = 0; i < 8; i++) {
            x.plan(1, i, 99 - i);
        }
        // against j there are j that gain 6 and 7 - j that lose it: (99 - j) * (2j - 7) * 6 of 8 * 764
        Edge.fraction("eight by eight: -504 of 6112", x.both(0), x.both(1), -63, 764);
        x = Edge.told("fields 8; forces 0 7; plan 0 0 weight 99; plan 1 7 weight 98");
        Edge.fraction("the least", x.both(0), x.both(1), -8, 1);
        x = Edge.told("fields 8; forces 7 0; plan 0 7 weight 99; plan 1 0 weight 98");
        Edge.fraction("the most", x.both(0), x.both(1), 8, 1);
        x = Edge.told("fields 1 1; forces 1 1; plan 0 01 weight 4; plan 1 10 weight 4");
        Edge.fraction("0", x.both(0), x.both(1), 0, 1);
        x = Edge.told("fields 1; forces 0 1; plan 0 0 weight 3; plan 1 1 weight 2");
        Edge.fraction("-1, which is not refused", x.both(0), x.both(1), -1, 1);
        x = Edge.told("fields 8; forces 3 3; plan 0 3 weight 2; plan 1 3 weight 5");
        int[] byTies = {0, 8, -8};
        for (int rule = 0; rule < 3; rule++) {
            x.ties(rule);
            Edge.fraction("as many, ties " + rule, x.both(0), x.both(1), byTies[rule], 1);
            Edge.fraction("hold of side 0, ties " + rule, x.hold(0, 0), x.hold(0, 1), byTies[rule], 1);
            Edge.fraction("hold of side 1, ties " + rule, x.hold(1, 0), x.hold(1, 1), -byTies[rule], 1);
        }

        Doc.says(33, "others");
        for (int what : Edge.NOT_0_1) {
            Edge.refused("both(" + what + ")", -100, y -> y.both(what));
        }

        Doc.says(33, "no ENTRIES of one");
        for (int what = 0; what < 2; what++) {
            int part = what;
            Edge.refused("of both", -100, SecretForces::new, y -> y.both(part));
            Edge.refused("of side 0", -100, () -> emptyPlan(0), y -> y.both(part));
            Edge.refused("of side 1", -100, () -> emptyPlan(1), y -> y.both(part));
        }
    }

    private static void mean() {
        Doc.says(34, "On a FIELD: how much the PLAN of a SIDE has there on the whole, above, below");
        SecretForces x = Edge.told("fields 1 1; forces 7 7; plan 0 " + ALL_EIGHT + "; plan 1 07 weight 99");
        Edge.fraction("the half of 7", x.mean(0, 0, 0), x.mean(0, 0, 1), 7, 2);
        Edge.fraction("none", x.mean(1, 0, 0), x.mean(1, 0, 1), 0, 1);
        Edge.fraction("all", x.mean(1, 1, 0), x.mean(1, 1, 1), 7, 1);
        x = Edge.told("fields 1 1 1 1; forces 5 0; plan 0 5000 weight 99 0005 weight 1; plan 1 0000 weight 1");
        Edge.fraction("field 0", x.mean(0, 0, 0), x.mean(0, 0, 1), 99, 20);
        Edge.fraction("field 3", x.mean(0, 3, 0), x.mean(0, 3, 1), 1, 20);
        Edge.fraction("no forces", x.mean(1, 3, 0), x.mean(1, 3, 1), 0, 1);

        Doc.says(34, "others");
        for (int field : new int[] {-1, 2, Edge.LEAST, Edge.MOST}) {
            Edge.refused("mean(0, " + field + ", 1)", -1, y -> y.mean(0, field, 1));
        }
        Edge.refused("field 4 of four", -1, () -> Edge.laden("fields 1 1 1 1; forces 2 1"), y -> y.mean(0, 4, 1));
        Edge.refused("field 1 of one", -1, () -> Edge.laden("fields 1; forces 2 1"), y -> y.mean(0, 1, 1));
        for (int wrong : Edge.NOT_0_1) {
            Edge.refused("mean(" + wrong + ", 0, 1)", -1, y -> y.mean(wrong, 0, 1));
            Edge.refused("mean(0, 0, " + wrong + ")", -1, y -> y.mean(0, 0, wrong));
        }

        Doc.says(34, "no ENTRIES");
        for (int side = 0; side < 2; side++) {
            int of = side;
            Edge.refused("never any", -1, SecretForces::new, y -> y.mean(of, 0, 1));
            Edge.refused("all went", -1, () -> emptyPlan(of), y -> y.mean(of, 0, 1));
            Due.holds("the other one has some", emptyPlan(1 - of).mean(of, 0, 1) >= 1);
        }
    }
}
