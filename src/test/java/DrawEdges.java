import java.math.BigInteger;

/** Edges of promises 35 to 41, and of DRAWS, TURNS, NOTES, CHANCES; and of 512 calls. */
final class DrawEdges {
    private static final BigInteger ALL_INTS = BigInteger.ONE.shiftLeft(32);

    private DrawEdges() {
    }

    static void all() {
        state();
        chance();
        parts();
        turns();
        drawRefused();
        match();
        note();
        against();
        apart();
        count();
        calls();
    }

    private static int next(int state) {
        return BigInteger.valueOf(state).multiply(BigInteger.valueOf(1664525)).add(BigInteger.valueOf(1013904223)).intValue();
    }

    /** The STATE that the next draw makes this one. */
    private static int before(int state) {
        BigInteger back = BigInteger.valueOf(1664525).modInverse(ALL_INTS);
        return BigInteger.valueOf(state).subtract(BigInteger.valueOf(1013904223)).multiply(back).intValue();
    }

    private static void state() {
        Doc.says(35, "STATE is told: what it was");
        SecretForces x = new SecretForces();
        int was = 0;
        for (int v : new int[] {1, -1, Edge.LEAST, Edge.MOST, 0, -100}) {
            Due.is("state(" + v + ")", x.state(v), was);
            Due.is("count", x.count(11), v);
            was = v;
        }

        Doc.says(Doc.TERMS, "a STATE (an int, 0 at first)");
        Due.is("at first", new SecretForces().state(5), 0);
        x = Edge.told("plan 0 005 weight 1");
        x.draw(0, false);
        Due.is("the first draw", x.count(11), 1013904223);
    }

    private static void chance() {
        Doc.says(Doc.TERMS, "becomes 1664525 times itself + 1013904223 (ints, which wrap)");
        SecretForces x = Edge.told("plan 0 005 weight 1");
        x.state(1);
        x.draw(0, false);
        Due.is("from 1", x.count(11), 1015568748);
        // 1664525 times the greatest int is the least one less 1664525, by wrap-around
        x.state(Edge.MOST);
        x.draw(0, false);
        Due.is("from the greatest int", x.count(11), -1135243950);
        x.state(Edge.LEAST);
        x.draw(0, false);
        Due.is("from the least int", x.count(11), -1133579425);
        x.state(-1);
        x.draw(0, false);
        Due.is("from -1", x.count(11), 1012239698);
        x.state(0);
        int state = 0;
        for (int k = 0; k < 400; k++) {
            x.draw(0, false);
            state = next(state);
        }
        Due.is("400 times", x.count(11), state);
        for (int edge : new int[] {0, -1, Edge.LEAST, Edge.MOST}) {
            x.state(before(edge));
            x.draw(0, false);
            Due.is("it becomes " + edge, x.count(11), edge);
        }

        Doc.says(Doc.TERMS, "its highest 24 bits (without sign) modulo all WEIGHTS");
        x = Edge.told("plan 0 005 weight 2 014 weight 3 023 weight 1");
        // of 6: 0 1 are 005, 2 3 4 are 014, 5 is 023
        int[][] want = {{0, 0}, {255, 0}, {256, 0}, {511, 0}, {512, 1}, {767, 1}, {5 * 256 - 1, 1}, {5 * 256, 2},
            {6 * 256 - 1, 2}, {6 * 256, 0}, {Edge.MOST, 0}, {Edge.LEAST, 1}, {-256, 1}, {-257, 1}, {-1, 1},
            {-512, 1}, {-513, 0}};
        for (int[] w : want) {
            x.state(before(w[0]));
            Due.is("by a state " + w[0], x.draw(0, false), w[1]);
        }
    }

    private static int drawnAt(SecretForces x, int side, int part) {
        x.state(before(part << 8));
        return x.draw(side, false);
    }

    private static void parts() {
        Doc.says(Doc.TERMS, "the ENTRY in whose part that lies (the first: 0 to its WEIGHT less 1, and so on)");
        SecretForces x = new SecretForces();
        for (int k = 0; k < 8; k++) {
            x.plan(1, 10 - k, 99);
        }
        for (int k = 0; k < 8; k++) {
            Due.is("the first of part " + k, drawnAt(x, 1, 99 * k), 10 - k);
            Due.is("the last of part " + k, drawnAt(x, 1, 99 * k + 98), 10 - k);
        }
        Due.is("behind all the first again", drawnAt(x, 1, 792), 10);
        Due.is("the greatest part", drawnAt(x, 1, (1 << 24) - 1), 10 - ((1 << 24) - 1) % 792 / 99);
        // weights told anew and one that went move all parts
        x.plan(1, 10, 1);
        x.plan(1, 9, 0);
        Due.is("0 of 595", drawnAt(x, 1, 0), 10);
        Due.is("1 of 595", drawnAt(x, 1, 1), 8);
        Due.is("99 of 595", drawnAt(x, 1, 99), 8);
        Due.is("100 of 595", drawnAt(x, 1, 100), 7);
        Due.is("594 of 595", drawnAt(x, 1, 594), 3);
        Due.is("595 of 595", drawnAt(x, 1, 595), 10);
        x = new SecretForces();
        x.plan(0, 20, 1);
        for (int part : new int[] {0, 1, 2, 98, 99, 8388608}) {
            Due.is("the only one, by " + part, drawnAt(x, 0, part), 20);
        }
    }

    private static String turnsOf(SecretForces x, int side, int many) {
        StringBuilder b = new StringBuilder();
        for (int k = 0; k < many; k++) {
            b.append(x.draw(side, true)).append(' ');
        }
        return b.toString().trim();
    }

    private static void turns() {
        Doc.says(Doc.TERMS, "is greatest, of several the first");
        SecretForces x = Edge.told("plan 0 014 weight 7 005 weight 7 023 weight 7; plan 1 004 weight 99");
        Due.same("three alike", turnsOf(x, 0, 7), "1 0 2 1 0 2 1");
        Due.same("the only one", turnsOf(x, 1, 3), "0 0 0");
        x = Edge.told("plan 0 005 weight 1 014 weight 1 023 weight 2");
        // 1 1 2; 2 2 0; -2 3 2; 0 0 4 and so on
        Due.same("1 1 2", turnsOf(x, 0, 8), "2 0 1 2 2 0 1 2");
        x = Edge.told("plan 0 005 weight 99 014 weight 1");
        // 100 - k and k by the k-th turn: as much by the 50th
        Due.same("99 1", turnsOf(x, 0, 50), "0 ".repeat(50).trim());
        Due.is("the 51st", x.draw(0, true), 1);
        Due.same("till the hundredth", turnsOf(x, 0, 49), "0 ".repeat(49).trim());
        Due.same("once more", turnsOf(x, 0, 50), "0 ".repeat(50).trim());
        Due.is("the 151st", x.draw(0, true), 1);
        Due.is("drawn", x.entry(0, 0, 2) * 10 + x.entry(0, 1, 2), 1492);
        Due.is("the state stays", x.count(11), 0);

        Doc.says(Doc.TERMS, "(of each SIDE by itself; as its PLAN is changed they begin anew)");
        String both = "plan 0 005 weight 1 014 weight 2; plan 1 004 weight 1 013 weight 2";
        x = Edge.told(both);
        Due.same("side 0", turnsOf(x, 0, 3), "1 0 1");
        Due.same("side 1 begins by itself", turnsOf(x, 1, 3), "1 0 1");
        x = Edge.told(both);
        turnsOf(x, 0, 1);
        turnsOf(x, 1, 1);
        x.plan(0, 1, 2);
        Due.same("a weight as it was: anew", x.entry(0, 1, 2) + " " + turnsOf(x, 0, 2), "0 1 0");
        Due.same("side 1 goes on", x.entry(1, 1, 2) + " " + turnsOf(x, 1, 1), "1 0");
        x.plan(1, 5, 1);
        Due.is("an entry more: anew", x.entry(1, 0, 2) + x.entry(1, 1, 2) + x.entry(1, 2, 2), 0);
        x.draw(1, true);
        x.plan(1, 5, 0);
        Due.is("an entry less: anew", x.entry(1, 0, 2) + x.entry(1, 1, 2), 0);
        x.draw(1, true);
        x.plan(1, 5, 100);
        x.plan(1, 5, 0);
        Due.is("refused: they go on", x.entry(1, 1, 2), 1);
        Due.same("the next one", turnsOf(x, 1, 1), "0");
    }

    private static void drawRefused() {
        Doc.says(36, "by chance, or by turns: its number");
        SecretForces x = Edge.told("plan 0 500 weight 1 005 weight 1");
        Due.is("by chance", x.draw(0, false), 0);
        Due.is("no turn", x.entry(0, 0, 2) + x.entry(0, 1, 2), 0);
        Due.is("by turns", x.draw(0, true), 20);
        Due.is("no chance", x.count(11), 1013904223);

        Doc.says(36, "no such SIDE");
        for (int side : Edge.NOT_0_1) {
            Edge.refused("draw(" + side + ", true)", -1, y -> y.draw(side, true));
            Edge.refused("draw(" + side + ", false)", -1, y -> y.draw(side, false));
        }

        Doc.says(36, "no ENTRIES");
        for (int side = 0; side < 2; side++) {
            int of = side;
            Edge.refused("never any, by turns", -1, SecretForces::new, y -> y.draw(of, true));
            Edge.refused("never any, by chance", -1, SecretForces::new, y -> y.draw(of, false));
            Edge.refused("all went, by turns", -1, () -> PlanEdges.emptyPlan(of), y -> y.draw(of, true));
            Edge.refused("all went, by chance", -1, () -> PlanEdges.emptyPlan(of), y -> y.draw(of, false));
            Due.holds("the other one has some", PlanEdges.emptyPlan(1 - of).draw(of, false) >= 0);
        }
    }

    private static void match() {
        Doc.says(37, "(1 to 200)");
        SecretForces x = Edge.told("fields 8; forces 0 7; plan 0 0 weight 99; plan 1 7 weight 98");
        Due.is("1", x.match(1), -8);
        Due.is("two draws", x.count(11), next(next(0)));
        Due.is("200", x.match(200), -1600);
        int state = 0;
        for (int k = 0; k < 402; k++) {
            state = next(state);
        }
        Due.is("402 draws", x.count(11), state);
        x = Edge.told("fields 8; forces 7 0; plan 0 7 weight 99; plan 1 0 weight 98");
        Due.is("the most", x.match(200), 1600);

        Doc.says(37, "n times (1 to 200) both DRAW by chance, SIDE 0 first: what SIDE 0 gains in all");
        // 07 and 70 against 34 and 43, worths 1 7: 07 gains 6, 70 loses it, whatever side 1 does
        x = Edge.told("fields 1 7; forces 7 7; plan 0 07 weight 1 70 weight 2; plan 1 34 weight 1 43 weight 4");
        Due.is("part 0 of 3 by side 0", stateThen(x, 0), 6);
        Due.is("part 1 of 3 by side 0", stateThen(x, 1), -6);
        Due.is("both did draw", x.count(11), next(1 << 8));
        Due.is("no turns", x.entry(0, 0, 2) + x.entry(0, 1, 2) + x.entry(1, 0, 2) + x.entry(1, 1, 2), 0);
        Due.is("no notes", x.count(9) + x.count(10), 0);
        x.state(0);
        int one = x.draw(0, false);
        int other = x.draw(1, false);
        int sum = x.gain(one, other);
        one = x.draw(0, false);
        other = x.draw(1, false);
        sum += x.gain(one, other);
        x.state(0);
        Due.is("twice", x.match(2), sum);

        Doc.says(37, "others");
        for (int n : new int[] {0, 201, -1, Edge.LEAST, Edge.MOST}) {
            Edge.refused("match(" + n + ")", -10000, y -> y.match(n));
        }

        Doc.says(37, "no ENTRIES of one");
        Edge.refused("of both", -10000, SecretForces::new, y -> y.match(1));
        Edge.refused("of side 0", -10000, () -> PlanEdges.emptyPlan(0), y -> y.match(1));
        Edge.refused("of side 1", -10000, () -> PlanEdges.emptyPlan(1), y -> y.match(200));
    }

    /** A match of one in which SIDE 0 draws by this part. */
    private static int stateThen(SecretForces x, int part) {
        x.state(before(part << 8));
        return x.match(1);
    }

    /** 40 of this SIDE, three of the other one. */
    private static SecretForces fullNotes(int side) {
        SecretForces x = Edge.laden();
        for (int k = 4; k <= 40; k++) {
            Due.is("note " + k, x.note(side, k % x.splits(side)), k);
        }
        return x;
    }

    private static void note() {
        Doc.says(Doc.TERMS, "NOTES of a SIDE, 40 at most: SPLITS seen");
        SecretForces x = new SecretForces();
        for (int side = 0; side < 2; side++) {
            for (int k = 1; k <= 40; k++) {
                Due.is("note " + k, x.note(side, 14), k);
            }
            Due.is("41", x.note(side, 14), -1);
        }
        Due.is("how many", x.count(9) * 100 + x.count(10), 4040);

        Doc.says(38, "A SPLIT of a SIDE was seen: how many NOTES of it");
        x = new SecretForces();
        Due.is("the first split", x.note(0, 0), 1);
        Due.is("the last split", x.note(0, 20), 2);
        Due.is("again", x.note(0, 20), 3);
        Due.is("of side 1", x.note(1, 14), 1);

        Doc.says(38, "40 there are");
        for (int side = 0; side < 2; side++) {
            int of = side;
            Edge.refused("a 41st of side " + of, -1, () -> fullNotes(of), y -> y.note(of, 1));
            Due.is("the other one has room", fullNotes(of).note(1 - of, 1), 4);
        }

        Doc.says(38, "others");
        for (int i : new int[] {-1, 4, Edge.LEAST, Edge.MOST}) {
            Edge.refused("note(0, " + i + ")", -1, y -> y.note(0, i));
        }
        Edge.refused("note(1, 3)", -1, y -> y.note(1, 3));
        for (int side : Edge.NOT_0_1) {
            Edge.refused("note(" + side + ", 0)", -1, y -> y.note(side, 0));
        }
    }

    /** Plans of both, NOTES of this SIDE alone. */
    private static SecretForces seenOf(int side) {
        SecretForces x = Edge.told("fields 1 2; forces 3 2; plan 0 03 weight 1; plan 1 02 weight 2");
        x.note(side, 1);
        return x;
    }

    private static SecretForces unseen() {
        return Edge.told("fields 1 2; forces 3 2; plan 0 03 weight 1; plan 1 02 weight 2");
    }

    private static void against() {
        Doc.says(39, "the SPLIT of a SIDE that gains most on the whole (the first), what 0; how much, all NOTES together, 1");
        SecretForces x = Edge.told("fields 8; forces 7 0");
        for (int k = 0; k < 40; k++) {
            x.note(0, 0);
            x.note(1, 0);
        }
        Due.is("the most", x.against(0, 1), 320);
        Due.is("the least", x.against(1, 1), -320);
        Due.is("the only one", x.against(1, 0), 0);
        // 02 gains 1 0, 11 gains 1 1, 20 gains 0 1 against 01, 10
        x = Edge.told("fields 1 1; forces 2 1");
        x.note(1, 0);
        Due.is("02 and 11 are as good: the first", x.against(0, 0), 0);
        Due.is("1", x.against(0, 1), 1);
        x.note(1, 1);
        Due.is("11 is better", x.against(0, 0), 1);
        Due.is("2", x.against(0, 1), 2);
        x.note(0, 0);
        Due.is("10 against 02, the last one", x.against(1, 0), 1);
        Due.is("0", x.against(1, 1), 0);
        x.note(0, 2);
        Due.is("both are as good", x.against(1, 0), 0);
        Due.is("-1, which is not refused", x.against(1, 1), -1);
        x = Edge.told("fields 5 1 1 1; forces 6 7");
        x.note(0, 83);
        Due.is("the 120th", x.against(1, 0), 119);
        x = Edge.told("fields 1 1 1 1; forces 4 7");
        x.note(1, 119);
        // 1111 against 7000
        Due.is("against the 120th", x.against(0, 1), 2);
        x = Edge.told("fields 1 1 1 1; forces 7 4");
        x.note(0, 119);
        Due.is("against the 120th, side 1", x.against(1, 1), 2);

        Doc.says(39, "others");
        for (int wrong : Edge.NOT_0_1) {
            Edge.refused("against(" + wrong + ", 1)", -10000, y -> y.against(wrong, 1));
            Edge.refused("against(0, " + wrong + ")", -10000, y -> y.against(0, wrong));
        }

        Doc.says(39, "no NOTES of that");
        for (int side = 0; side < 2; side++) {
            int of = side;
            Edge.refused("of none", -10000, DrawEdges::unseen, y -> y.against(of, 0));
            Edge.refused("of its own alone", -10000, () -> seenOf(of), y -> y.against(of, 0));
            Due.holds("of the other one alone", seenOf(1 - of).against(of, 0) >= 0);
        }
    }

    private static void apart() {
        Doc.says(40, "By how much, at most, CHANCES of a SPLIT, as seen, and shares of the PLAN of a SIDE are apart");
        SecretForces x = Edge.told("plan 0 005 weight 99; plan 1 004 weight 99 013 weight 1");
        x.note(0, 0);
        Edge.fraction("not at all", x.apart(0, 0), x.apart(0, 1), 0, 1);
        x.note(0, 20);
        Edge.fraction("one half", x.apart(0, 0), x.apart(0, 1), 1, 2);
        for (int k = 1; k <= 39; k++) {
            x.note(1, 0);
        }
        x.note(1, 1);
        Edge.fraction("39 of 40, 99 of 100", x.apart(1, 0), x.apart(1, 1), 3, 200);
        x = Edge.told("plan 0 005 weight 2 014 weight 1 023 weight 1");
        x.note(0, 1);
        x.note(0, 2);
        // 0 1 1 of 2, 2 1 1 of 4
        Edge.fraction("by the first split", x.apart(0, 0), x.apart(0, 1), 1, 2);
        x = Edge.told("plan 0 005 weight 1");
        x.note(0, 20);
        Edge.fraction("wholly, by the last split", x.apart(0, 0), x.apart(0, 1), 1, 1);
        x = Edge.told("fields 1 1; forces 7 7");
        for (int i = 0; i < 8; i++) {
            x.plan(1, i, 99);
        }
        for (int k = 0; k < 40; k++) {
            x.note(1, 7);
        }
        Edge.fraction("one of eight alone", x.apart(1, 0), x.apart(1, 1), 7, 8);
        x = Edge.told("fields 1 1 1 1; forces 7 7; plan 0 0007 weight 1 7000 weight 3");
        x.note(0, 0);
        Edge.fraction("3 of 4, of 120", x.apart(0, 0), x.apart(0, 1), 3, 4);

        Doc.says(40, "others");
        for (int wrong : Edge.NOT_0_1) {
            Edge.refused("apart(" + wrong + ", 1)", -1, y -> y.apart(wrong, 1));
            Edge.refused("apart(0, " + wrong + ")", -1, y -> y.apart(0, wrong));
        }

        Doc.says(40, "no NOTES");
        for (int side = 0; side < 2; side++) {
            int of = side;
            Edge.refused("of none", -1, DrawEdges::unseen, y -> y.apart(of, 1));
            Edge.refused("of the other one alone", -1, () -> seenOf(1 - of), y -> y.apart(of, 1));
            Due.holds("of its own alone", seenOf(of).apart(of, 1) >= 1);
        }

        Doc.says(40, "no ENTRIES");
        for (int side = 0; side < 2; side++) {
            int of = side;
            Edge.refused("all went", -1, () -> PlanEdges.emptyPlan(of), y -> y.apart(of, 1));
            Due.holds("the other one has some", PlanEdges.emptyPlan(1 - of).apart(of, 1) >= 1);
        }
    }

    private static void count() {
        Doc.says(41, "What 0: K, 1, 2: FORCES, 3: TIES, 4: WORTHS together, 5, 6: SPLITS in BOOKS, 7, 8: ENTRIES,"
            + " 9, 10: NOTES, 11: STATE, 12: bytes on THE TAPE");
        SecretForces x = Edge.told("fields 3 1 2; forces 7 6; ties 2; book 0 007 700 070; book 1 006;"
            + " plan 0 007 weight 1 700 weight 2; plan 1 006 weight 3 060 weight 4 600 weight 5 222 weight 9");
        x.note(0, 0);
        for (int k = 0; k < 5; k++) {
            x.note(1, k);
        }
        x.state(-1);
        Due.put(x, "ties 1");
        int[] want = {3, 7, 6, 2, 6, 3, 1, 2, 4, 1, 5, -1, 20};
        for (int what = 0; what < want.length; what++) {
            Due.is("count(" + what + ")", x.count(what), want[what]);
        }

        Doc.says(41, "20 and on: WORTHS of FIELDS (0 without)");
        int[] worths = {3, 1, 2, 0};
        for (int k = 0; k < 4; k++) {
            Due.is("count(" + (20 + k) + ")", x.count(20 + k), worths[k]);
        }
        x = Edge.told("fields 1 2 2 3");
        Due.is("of four", x.count(23), 3);
        x.lose();
        Due.is("of three", x.count(23), 0);
        x = Edge.told("fields 8");
        Due.is("of one", x.count(20) * 1000 + x.count(21) * 100 + x.count(22) * 10 + x.count(23), 8000);

        Doc.says(41, "NONE - 99 for another what");
        for (int what : new int[] {-1, 13, 19, 24, 25, Edge.LEAST, Edge.LEAST + 19, Edge.LEAST + 20, Edge.MOST}) {
            Edge.refused("count(" + what + ")", -100, y -> y.count(what));
        }
    }

    private static void calls() {
        Doc.says(Doc.TERMS, "An object is used for at most 512 calls after it has been made");
        SecretForces x = new SecretForces();
        x.plan(0, 0, 99);
        x.plan(0, 1, 1);
        for (int call = 3; call <= 510; call++) {
            x.draw(0, true);
        }
        // of 508 turns the 51st, 151st, 251st, 351st and 451st
        Due.is("the 511th call", x.entry(0, 0, 2), 503);
        Due.is("the 512th call", x.entry(0, 1, 2), 5);
    }
}
