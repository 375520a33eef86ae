import java.util.List;
import java.util.Set;
import java.util.TreeSet;

/** What the terms of FIELDS, SPLITS, texts, WORSE ones and those LEFT mean, where they name no edge. */
final class Meanings {
    private Meanings() {
    }

    static void all() {
        settings();
        texts();
        splits();
        gains();
        shapes();
        ways();
        worse();
        left();
        safe();
    }

    private static void settings() {
        Doc.says(Doc.TERMS, "FIELDS 0 to K - 1 (K 1 to 4");
        for (int many = 1; many <= 4; many++) {
            SecretForces x = Edge.told("fields" + " 2".repeat(many) + "; forces 0 0");
            x.plan(0, 0, 1);
            for (int field = 0; field <= 4; field++) {
                Due.is("what lies on field " + field + " of " + many, x.mean(0, field, 0), field < many ? 0 : -1);
            }
        }

        Doc.says(Doc.TERMS, "SIDES 0, 1 with FORCES 0 to 7");
        SecretForces x = new SecretForces();
        x.forces(0, 7);
        x.forces(1, 0);
        Due.is("side 0", x.splits(0), 36);
        Due.is("side 1", x.splits(1), 1);
        Due.is("no side 2", x.splits(2), -1);

        Doc.says(Doc.TERMS, "told as a text or one by one");
        for (Plain plain : Plain.many()) {
            // FIELD 0 never goes, so calls alone leave it the WORTH it has at first
            if (plain.worths[0] == 1) {
                Due.same("one by one: " + plain, all(oneByOne(plain)), all(plain.object()));
            }
        }

        Doc.says(Doc.TERMS, "The constants: `NONE = -1`: None; refused");
        Due.is("NONE", SecretForces.NONE, -1);
        Due.is("none is seen, so none is apart", x.apart(0, 0), SecretForces.NONE);
        Due.is("refused", x.forces(0, 8), SecretForces.NONE);
    }

    private static SecretForces oneByOne(Plain plain) {
        SecretForces x = new SecretForces();
        x.lose();
        x.lose();
        for (int field = 1; field < plain.worths.length; field++) {
            x.field(plain.worths[field]);
        }
        x.ties(plain.ties);
        x.forces(1, plain.forces[1]);
        x.forces(0, plain.forces[0]);
        return x;
    }

    private static String all(SecretForces x) {
        return Edge.picture(x) + x.splits(0) + " " + x.splits(1) + " " + x.gain(0, 0) + " " + x.rounds() + " " + x.safe(1, -1);
    }

    private static void texts() {
        Doc.says(2, "how many it has");
        SecretForces x = new SecretForces();
        for (int k = 1; k <= 4; k++) {
            Due.is("feed " + k, x.feed(0, 0, 0, 0, 0), 20 * k);
            Due.is("so it says, " + k, x.count(12), 20 * k);
        }

        Doc.says(3, "The first n bytes of THE TAPE (it is empty then) are a TEXT: all that it tells is so");
        int[] want = {-3, -3, -3, -3, -35, -43, 1, -59, -67, -67, -67, -67, -99, -107, 2};
        for (int n = 0; n < want.length; n++) {
            x = new SecretForces();
            Due.put(x, "ties 1; ties 2");
            Due.is(n + " bytes of it", x.text(n), want[n]);
            Due.is("ties behind " + n, x.count(3), want[n] > 0 ? want[n] : 0);
            Due.is("the tape behind " + n, x.count(12), 0);
        }

        Doc.says(Doc.TERMS, "A TEXT (THE TAPE has 300 bytes; blanks, 32, 10, part TOKENS and mean nothing else;"
            + " TOKENS: words of small letters, NUMBERS of 1 to 4 digits that stand together; ; alone)");
        String[] tokens = ("fields 1 2 ; forces 3 2 ; ties 1 ; book 0 03 12 ; book 1 11 02"
            + " ; plan 0 03 weight 7 30 weight 99 ; plan 1 20 weight 1").split(" ");
        Due.same("apart no more than must be", all(Edge.told(joined(tokens, ""))), all(Edge.told(joined(tokens, " "))));
        Due.same("apart by lines", all(Edge.told(joined(tokens, "\n"))), all(Edge.told(joined(tokens, " "))));
        Due.same("apart by more", all(Edge.told(joined(tokens, " \n  "))), all(Edge.told(joined(tokens, " "))));
    }

    /** TOKENS one behind the other; two words or two NUMBERS do need a blank. */
    private static String joined(String[] tokens, String between) {
        StringBuilder b = new StringBuilder(tokens[0]);
        for (int k = 1; k < tokens.length; k++) {
            boolean alike = kind(tokens[k - 1]) == kind(tokens[k]);
            b.append(alike && between.isEmpty() ? " " : between).append(tokens[k]);
        }
        return b.toString();
    }

    private static int kind(String token) {
        char first = token.charAt(0);
        return first == ';' ? 0 : first <= '9' ? 1 : 2;
    }

    private static void splits() {
        Doc.says(Doc.TERMS, "A SPLIT of a SIDE: of each FIELD how many, 0 at least, all its FORCES together."
            + " Told as a number it is read by eights: FIELD 0 first (K digits). SPLITS are numbered from 0 on");
        for (Plain plain : Plain.many()) {
            SecretForces x = plain.object();
            for (int side = 0; side < 2; side++) {
                Due.is("how many, " + plain, x.splits(side), plain.size(side));
                for (int i = 0; i < plain.size(side); i++) {
                    int eights = Plain.eights(plain.splits.get(side).get(i));
                    Due.is("split " + i + ", " + plain, x.split(side, i), eights);
                    Due.is("number of it, " + plain, x.number(side, eights), i);
                }
            }
        }
    }

    private static void gains() {
        Doc.says(Doc.TERMS, "GAIN of SIDE 0 by two SPLITS: of each FIELD its WORTH, if it has more there");
        for (Plain plain : Plain.many()) {
            for (int i = 0; i < plain.size(0); i++) {
                SecretForces x = plain.object();
                for (int j = 0; j < plain.size(1); j++) {
                    Due.is("gain of " + i + " by " + j + ", " + plain, x.gain(i, j), plain.gain(0, i, j));
                }
            }
        }
    }

    private static void shapes() {
        Doc.says(Doc.TERMS, "SPLITS of one SHAPE: those that come of one another by changing numbers of FIELDS that are ALIKE");
        for (Plain plain : Plain.many()) {
            SecretForces x = plain.object();
            for (int side = 0; side < 2; side++) {
                for (int i = 0; i < plain.size(side); i++) {
                    int first = plain.shape(side, i).iterator().next();
                    Due.is("the first like " + i + " of " + side + ", " + plain, x.shape(side, i, 1), first);
                }
            }
        }

        Doc.says(13, "Of the SHAPE of a SPLIT, what 0: how many SPLITS it has");
        for (Plain plain : Plain.many()) {
            for (int side = 0; side < 2; side++) {
                shapesOf(plain, side);
            }
        }
    }

    private static void shapesOf(Plain plain, int side) {
        SecretForces x = plain.object();
        int begun = 0;
        for (int i = 0; i < plain.size(side); i++) {
            begun += plain.shape(side, i).iterator().next() == i ? 1 : 0;
            String what = " of split " + i + " of " + side + ", " + plain;
            Due.is("how many" + what, x.shape(side, i, 0), plain.shape(side, i).size());
            Due.is("begun up to it" + what, x.shape(side, i, 2), begun);
        }
        Due.is("shapes of " + side + ", " + plain, x.shapes(side), begun);
    }

    private static void ways() {
        Doc.says(14, "In how many ways a SIDE could part so many FORCES (0 to 20) over so many FIELDS (1 to 8), each at least so many (0 to 3)");
        for (int each = 0; each <= 3; each++) {
            SecretForces x = new SecretForces();
            long[] before = new long[21];
            before[0] = 1;
            for (int fields = 1; fields <= 8; fields++) {
                long[] found = new long[21];
                for (int many = 0; many <= 20; many++) {
                    for (int here = each; here <= many; here++) {
                        found[many] += before[many - here];
                    }
                    Due.is("ways " + many + " " + fields + " " + each, x.ways(many, fields, each), found[many]);
                }
                before = found;
            }
        }
    }

    private static void worse() {
        Doc.says(Doc.TERMS, "A SPLIT is WORSE than another one of its SIDE, if against each SPLIT of the other one");
        betterOnes(false);
        Doc.says(15, "The first SPLIT than which one is WORSE (beaten: by which it is BEATEN)");
        betterOnes(true);
    }

    private static void betterOnes(boolean beaten) {
        for (Plain plain : Plain.many()) {
            for (int side = 0; side < 2; side++) {
                SecretForces x = plain.object();
                for (int i = 0; i < plain.size(side); i++) {
                    Due.is("worse(" + side + ", " + i + ", " + beaten + "), " + plain,
                        x.worse(side, i, beaten), firstBetter(plain, side, i, beaten));
                }
            }
        }
    }

    private static int firstBetter(Plain plain, int side, int i, boolean beaten) {
        for (int by = 0; by < plain.size(side); by++) {
            int less = 0;
            int more = 0;
            for (int j = 0; j < plain.size(1 - side); j++) {
                int change = plain.gain(side, by, j) - plain.gain(side, i, j);
                less += change > 0 ? 1 : 0;
                more += change < 0 ? 1 : 0;
            }
            if (beaten ? less == plain.size(1 - side) : less > 0 && more == 0) {
                return by;
            }
        }
        return -2;
    }

    private static void left() {
        Doc.says(Doc.TERMS, "LEFT: all that are BEATEN by one that is left (against those of the other SIDE that are left) go, of both SIDES at once");
        for (Plain plain : Plain.many()) {
            List<Set<Integer>> left = List.of(allOf(plain, 0), allOf(plain, 1));
            int times = 0;
            List<Set<Integer>> go = goers(plain, left);
            while (!go.get(0).isEmpty() || !go.get(1).isEmpty()) {
                left.get(0).removeAll(go.get(0));
                left.get(1).removeAll(go.get(1));
                times++;
                go = goers(plain, left);
            }
            SecretForces x = plain.object();
            Due.is("rounds, " + plain, x.rounds(), times);
            for (int side = 0; side < 2; side++) {
                Set<Integer> found = new TreeSet<>();
                for (int k = 0; k < x.left(side, -1); k++) {
                    found.add(x.left(side, k));
                }
                Due.same("left of " + side + ", " + plain, found.toString(), left.get(side).toString());
            }
        }
    }

    private static Set<Integer> allOf(Plain plain, int side) {
        Set<Integer> found = new TreeSet<>();
        for (int i = 0; i < plain.size(side); i++) {
            found.add(i);
        }
        return found;
    }

    private static List<Set<Integer>> goers(Plain plain, List<Set<Integer>> left) {
        List<Set<Integer>> go = List.of(new TreeSet<>(), new TreeSet<>());
        for (int side = 0; side < 2; side++) {
            for (int i : left.get(side)) {
                for (int by : left.get(side)) {
                    boolean beaten = true;
                    for (int j : left.get(1 - side)) {
                        beaten = beaten && plain.gain(side, i, j) < plain.gain(side, by, j);
                    }
                    if (beaten) {
                        go.get(side).add(i);
                    }
                }
            }
        }
        return go;
    }

    private static void safe() {
        Doc.says(18, "What a SPLIT gains for its SIDE at least, against any; the greatest of all such (i NONE)");
        for (Plain plain : Plain.many()) {
            for (int side = 0; side < 2; side++) {
                SecretForces x = plain.object();
                int most = Edge.LEAST;
                for (int i = 0; i < plain.size(side); i++) {
                    int least = Edge.MOST;
                    for (int j = 0; j < plain.size(1 - side); j++) {
                        least = Math.min(least, plain.gain(side, i, j));
                    }
                    Due.is("safe " + i + " of " + side + ", " + plain, x.safe(side, i), least);
                    most = Math.max(most, least);
                }
                Due.is("the greatest of " + side + ", " + plain, x.safe(side, -1), most);
            }
        }
    }
}
