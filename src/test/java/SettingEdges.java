/** Edges of promises 1, 2 and 4 to 7, and of FIELDS, WORTHS, FORCES, TIES. */
final class SettingEdges {
    private SettingEdges() {
    }

    static void all() {
        terms();
        newObject();
        feed();
        field();
        lose();
        forces();
        ties();
    }

    private static void isBare(String behind, SecretForces x) {
        for (int what = 5; what <= 10; what++) {
            Due.is("count(" + what + ") behind " + behind, x.count(what), 0);
        }
        Edge.nothingSeen(behind, x);
        Edge.nothingPlanned(behind, x);
    }

    private static void terms() {
        Doc.says(Doc.TERMS, "K 1 to 4");
        SecretForces x = new SecretForces();
        Due.is("the fourth one", x.field(1), 4);
        Due.is("no fifth one", x.field(1), -1);
        for (int k = 3; k >= 1; k--) {
            Due.is("lose", x.lose(), k);
        }
        Due.is("not the last one", x.lose(), -1);
        Due.is("K", x.count(0), 1);

        Doc.says(Doc.TERMS, "3 of WORTH 1 at first");
        x = new SecretForces();
        Due.is("K", x.count(0), 3);
        Due.is("worths", x.count(20) * 100 + x.count(21) * 10 + x.count(22), 111);

        Doc.says(Doc.TERMS, "each of a WORTH 1 to 8");
        Due.is("8", Edge.told("fields 8").count(20), 8);
        Due.is("1", Edge.told("fields 1").count(20), 1);
        Due.is("0", new SecretForces().field(0), -1);
        Due.is("9, told by a text", Due.tell(new SecretForces(), "fields 9"), -2 - (8 * 7 + 2));

        Doc.says(Doc.TERMS, "all together 8 at most");
        x = Edge.told("fields 1 1");
        Due.is("7 more", x.field(7), -1);
        Due.is("6 more", x.field(6), 3);
        Due.is("together", x.count(4), 8);
        Due.is("one more", x.field(1), -1);

        Doc.says(Doc.TERMS, "FORCES 0 to 7 (5 and 4 at first)");
        x = new SecretForces();
        Due.is("of side 0 at first", x.forces(0, 7), 5);
        Due.is("of side 1 at first", x.forces(1, 7), 4);
        Due.is("0", x.forces(0, 0), 7);
        Due.is("0 of side 1", x.forces(1, 0), 7);
        Due.is("8", x.forces(0, 8), -1);
        Due.is("-1", x.forces(1, -1), -1);
        Due.is("they are", x.count(1) * 10 + x.count(2), 0);

        Doc.says(Doc.TERMS, "TIES: 0 nobody gains, 1 side 0 does, 2 side 1 (0 at first)");
        x = Edge.told("fields 8; forces 3 3");
        Due.is("at first", x.gain(0, 0), 0);
        x.ties(1);
        Due.is("1", x.gain(0, 0), 8);
        x.ties(2);
        Due.is("2", x.gain(0, 0), -8);
        x.ties(0);
        Due.is("0", x.gain(0, 0), 0);
    }

    private static void newObject() {
        Doc.says(1, "All as at first");
        SecretForces x = new SecretForces();
        int[] want = {3, 5, 4, 0, 3};
        for (int what = 0; what < want.length; what++) {
            Due.is("count(" + what + ")", x.count(what), want[what]);
        }
        Due.is("the state", x.count(11), 0);
        Due.is("no bytes", x.count(12), 0);

        Doc.says(1, "no BOOKS, PLANS, NOTES");
        isBare("new", x);

        Doc.says(1, "A new object");
        SecretForces one = Edge.laden();
        SecretForces other = new SecretForces();
        Due.same("it has nothing of another one", Edge.picture(other), Edge.picture(new SecretForces()));
        Due.same("the other one has its own still", Edge.picture(one), Edge.picture(Edge.laden()));
    }

    private static SecretForces fullTape() {
        SecretForces x = new SecretForces();
        for (int k = 1; k <= 14; k++) {
            Due.put(x, " ");
        }
        Due.put(x, "              ties 2");
        return x;
    }

    private static void feed() {
        Doc.says(2, "Twenty bytes come behind THE TAPE");
        SecretForces x = new SecretForces();
        for (int k = 1; k <= 15; k++) {
            Due.is("feed " + k, x.feed(0, 0, 0, 0, 0), 20 * k);
        }
        x = new SecretForces();
        Due.put(x, "forces 6            ");
        Due.put(x, "                   7");
        Due.is("the first twenty, then the second", x.text(40), 1);
        Due.is("forces", x.count(1) * 10 + x.count(2), 67);

        Doc.says(2, "of each number the highest first");
        x = new SecretForces();
        // "tie" "s 2 " by bytes
        x.feed(0x20746965, 0x73203220, 0x20202020, 0x20202020, 0x20202020);
        Due.is("text", x.text(20), 1);
        Due.is("ties", x.count(3), 2);
        // a highest byte from 128 on makes the number one below 0
        for (int high : new int[] {128, 255}) {
            x.feed(0x74696573, 0x32202020, high << 24 | 0x202020, 0x20202020, 0x20202020);
            Due.is("a byte " + high + " at 8", x.text(20), -2 - (8 * 8 + 1));
            x.feed(0x74696573, 0x32202020, 0x20202020, 0x20202020, 0x20202000 | high);
            Due.is("a byte " + high + " at 19", x.text(20), -2 - (8 * 19 + 1));
        }

        Doc.says(2, "NONE, and none come, if it would have more than 300");
        Due.is("300 there are", fullTape().count(12), 300);
        Edge.refused("feed above 300", -1, SettingEdges::fullTape, y -> y.feed(-1, -1, -1, -1, -1));
        x = fullTape();
        x.feed(0, 0, 0, 0, 0);
        Due.is("all 300 are as they were", x.text(300), 1);
        Due.is("the last byte too", x.count(3), 2);
        Due.is("there is room again", x.feed(0, 0, 0, 0, 0), 20);
    }

    private static void field() {
        Doc.says(4, "A FIELD more of a WORTH, behind all: K");
        SecretForces x = Edge.laden();
        Due.is("5: 8 together", x.field(5), 3);
        Due.is("worths", x.count(20) * 100 + x.count(21) * 10 + x.count(22), 125);
        Due.is("1, the least", new SecretForces().field(1), 4);
        Due.is("7, the most", Edge.told("fields 1").field(7), 2);

        Doc.says(4, "others");
        for (int worth : new int[] {0, -1, -8, 9, Edge.LEAST, Edge.LEAST + 3, Edge.MOST, Edge.MOST - 2}) {
            Edge.refused("field(" + worth + ")", -1, y -> y.field(worth));
        }

        Doc.says(4, "four there are");
        Edge.refused("a fifth one", -1, () -> Edge.laden("fields 1 1 1 1; forces 2 1"), y -> y.field(1));

        Doc.says(4, "above 8 together");
        for (int worth = 6; worth <= 8; worth++) {
            int more = worth;
            Edge.refused("field(" + more + ") to 1 2", -1, y -> y.field(more));
        }
        Edge.refused("one more than 8", -1, () -> Edge.laden("fields 8; forces 2 1"), y -> y.field(1));
        Edge.refused("8 to 1", -1, () -> Edge.laden("fields 1; forces 2 1"), y -> y.field(8));

        Doc.says(4, "(No BOOKS, PLANS, NOTES are then, here and below.)");
        x = Edge.laden();
        x.field(1);
        isBare("field", x);
        Due.is("ties stay", x.count(3), 1);
        Due.is("forces stay", x.count(1) * 10 + x.count(2), 32);
        Due.is("the state stays", x.count(11), -12345);
        Due.is("the tape stays", x.text(20), 1);
        Due.is("as it was", x.count(3), 2);
        x.plan(0, 0, 1);
        Due.is("no turns of before", x.entry(0, 0, 2), 0);
    }

    private static void lose() {
        Doc.says(5, "The last FIELD goes: K");
        SecretForces x = Edge.told("fields 1 2 3 2; forces 1 0");
        Due.is("of four", x.lose(), 3);
        Due.is("worths", x.count(20) * 1000 + x.count(21) * 100 + x.count(22) * 10 + x.count(23), 1230);
        Due.is("together", x.count(4), 6);
        Due.is("splits", x.splits(0), 3);
        x = Edge.laden();
        Due.is("of two", x.lose(), 1);
        isBare("lose", x);
        Due.is("worths", x.count(20) * 10 + x.count(21), 10);
        Due.is("the state stays", x.count(11), -12345);
        Due.is("forces stay", x.count(1) * 10 + x.count(2), 32);
        Due.is("one split", x.splits(0), 1);

        Doc.says(5, "there is but one");
        Edge.refused("lose the only one", -1, () -> Edge.laden("fields 3; forces 2 1"), SecretForces::lose);
    }

    private static void forces() {
        Doc.says(6, "FORCES of a SIDE: what they were");
        SecretForces x = new SecretForces();
        for (int side = 0; side < 2; side++) {
            int was = 5 - side;
            for (int many = 0; many <= 7; many++) {
                Due.is("forces(" + side + ", " + many + ")", x.forces(side, many), was);
                was = many;
            }
        }
        Due.is("they are", x.count(1) * 10 + x.count(2), 77);
        for (int side = 0; side < 2; side++) {
            x = Edge.laden();
            x.forces(side, x.count(1 + side));
            isBare("forces as they were, of side " + side, x);
            Due.is("the state stays", x.count(11), -12345);
            Due.is("the tape stays", x.count(12), 20);
            Due.is("fields stay", x.count(0) * 10 + x.count(4), 23);
        }

        Doc.says(6, "others");
        for (int side = 0; side < 2; side++) {
            int of = side;
            for (int many : new int[] {-1, 8, Edge.LEAST, Edge.MOST}) {
                Edge.refused("forces(" + of + ", " + many + ")", -1, y -> y.forces(of, many));
            }
        }
        for (int side : Edge.NOT_0_1) {
            Edge.refused("forces(" + side + ", 1)", -1, y -> y.forces(side, 1));
        }
    }

    private static void ties() {
        Doc.says(7, "TIES: what it was");
        SecretForces x = new SecretForces();
        int[] rules = {2, 1, 0, 0};
        int was = 0;
        for (int rule : rules) {
            Due.is("ties(" + rule + ")", x.ties(rule), was);
            was = rule;
        }

        Doc.says(7, "others");
        for (int rule : Edge.NOT_0_1_2) {
            Edge.refused("ties(" + rule + ")", -1, y -> y.ties(rule));
        }

        Doc.says(7, "(BOOKS, PLANS, NOTES stay.)");
        x = Edge.laden();
        String before = Edge.picture(x);
        x.ties(2);
        x.ties(1);
        Due.same("all but ties", Edge.picture(x), before);
        x.ties(0);
        Due.same("counts", x.count(5) + " " + x.count(6) + " " + x.count(7) + " " + x.count(8) + " " + x.count(9)
            + " " + x.count(10), "2 2 2 2 3 3");
        Due.is("turns go on", x.entry(0, 0, 2) + x.entry(0, 1, 2), 1);
    }
}
