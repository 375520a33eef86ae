import java.util.ArrayList;
import java.util.Arrays;
import java.util.List;
import java.util.Random;

/** What the terms of BOOKS, PLANS, DRAWS and NOTES mean, where they name no edge. */
final class GameMeanings {
    private static final int SEED = 14;

    private GameMeanings() {
    }

    static void all() {
        value();
        best();
        shares();
        holds();
        even();
        byChance();
        byTurns();
        seen();
    }

    /** Some numbers of unlike SPLITS of a SIDE, in some order. */
    private static List<Integer> some(Random random, Plain plain, int side, int most) {
        List<Integer> all = new ArrayList<>();
        for (int i = 0; i < plain.size(side); i++) {
            all.add(i);
        }
        java.util.Collections.shuffle(all, random);
        return all.subList(0, Math.min(all.size(), 1 + random.nextInt(most)));
    }

    private static Model.Frac frac(long above, long below) {
        return Model.Frac.of(above, below);
    }

    /** Above and below are in lowest terms, below is above 0: what they are together. */
    private static Model.Frac lowest(String call, int above, int below) {
        Due.holds(call + ": below is 1 at least", below >= 1);
        Model.Frac found = frac(above, Math.max(below, 1));
        Due.same(call + " in lowest terms", above + "/" + below, found.above() + "/" + found.below());
        return found;
    }

    // ---- books

    /** BOOKS of an object, with the SPLITS in them. */
    private record Books(String told, Plain plain, SecretForces x, List<List<Integer>> splits) {
        static Books of(Random random, Plain plain, int most) {
            SecretForces x = plain.object();
            List<List<Integer>> splits = List.of(some(random, plain, 0, most), some(random, plain, 1, most));
            for (int side = 0; side < 2; side++) {
                for (int i : splits.get(side)) {
                    x.add(side, i);
                }
            }
            return new Books(plain + ", books " + splits, plain, x, splits);
        }

        List<Model.Frac> best(int side) {
            List<Model.Frac> found = new ArrayList<>();
            for (int k = 0; k < splits.get(side).size(); k++) {
                found.add(lowest("best " + side + " " + k + ", " + told, x.best(side, k, 0), x.best(side, k, 1)));
            }
            return found;
        }

        /** The least that such shares gain for their SIDE against what stands in the other BOOK. */
        Model.Frac least(int side, List<Model.Frac> shares) {
            Model.Frac least = null;
            for (int j : splits.get(1 - side)) {
                Model.Frac sum = Model.ZERO;
                for (int k = 0; k < shares.size(); k++) {
                    sum = sum.plus(shares.get(k).times(frac(plain.gain(side, splits.get(side).get(k), j), 1)));
                }
                least = least == null || sum.compareTo(least) < 0 ? sum : least;
            }
            return least;
        }
    }

    /** No other VALUE can be: SIDE 0 has shares by which it gains as much, SIDE 1 some by which it loses no more. */
    private static void value() {
        Doc.says(Doc.TERMS, "VALUE: what SIDE 0 gains by them, both mixing as well as can be (a fraction)");
        Random random = new Random(SEED);
        for (Plain plain : Plain.many()) {
            for (int run = 0; run < 4; run++) {
                Books books = Books.of(random, plain, 6);
                Model.Frac value = lowest("value, " + books.told, books.x.value(0), books.x.value(1));
                for (int side = 0; side < 2; side++) {
                    List<Model.Frac> best = books.best(side);
                    Due.same("together, " + books.told, best.stream().reduce(Model.Frac::plus).get().toString(), Model.ONE.toString());
                    Due.holds("0 at least, " + books.told, best.stream().allMatch(b -> b.compareTo(Model.ZERO) >= 0));
                    Model.Frac due = side == 0 ? value : Model.ZERO.minus(value);
                    Due.same("held by " + side + ", " + books.told, books.least(side, best).toString(), due.toString());
                }
            }
        }

        Doc.says(21, "how many (k NONE)");
        Books books = Books.of(random, new Plain(new int[] {1, 1, 1}, new int[] {5, 4}, 0), 6);
        Due.is("book 0", books.x.book(0, -1), books.splits.get(0).size());
        Due.is("book 1", books.x.book(1, -1), books.splits.get(1).size());

        Doc.says(22, "VALUE, above (what 0), below (1), in lowest terms");
        // 02 gains 1 and 0, 20 gains 0 and 1, 11 gains 1 and 1
        SecretForces x = Edge.told("fields 1 1; forces 2 1; book 0 02 20; book 1 01 10");
        Due.is("a half, above", x.value(0), 1);
        Due.is("a half, below", x.value(1), 2);
        x.shut(0);
        x.add(0, 1);
        Due.is("one, above", x.value(0), 1);
        Due.is("one, below", x.value(1), 1);
    }

    private static void best() {
        Doc.says(Doc.TERMS, "BEST shares of a SIDE: of all that are as good as can be the greatest row of fractions, the first of its BOOK first");
        Random random = new Random(SEED + 1);
        for (Plain plain : Plain.many()) {
            for (int run = 0; run < 12; run++) {
                Books books = Books.of(random, plain, 4);
                for (int side = 0; side < 2; side++) {
                    noneGreater(books, side);
                }
            }
        }
    }

    /** No row of shares by up to twelfths that is as good is greater. */
    private static void noneGreater(Books books, int side) {
        List<Model.Frac> best = books.best(side);
        Model.Frac held = books.least(side, best);
        for (int below = 1; below <= 12; below++) {
            for (int[] row : Plain.parted(below, best.size())) {
                List<Model.Frac> other = new ArrayList<>();
                for (int above : row) {
                    other.add(frac(above, below));
                }
                boolean greater = compare(other, best) > 0;
                Due.holds(other + " is no better than " + best + " of " + side + ", " + books.told,
                    !greater || books.least(side, other).compareTo(held) < 0);
            }
        }
    }

    private static int compare(List<Model.Frac> one, List<Model.Frac> other) {
        int k = 0;
        while (k < one.size() - 1 && one.get(k).compareTo(other.get(k)) == 0) {
            k++;
        }
        return one.get(k).compareTo(other.get(k));
    }

    // ---- plans

    /** PLANS of an object: of each SIDE the SPLITS, and WEIGHTS of all SPLITS of the SIDE (0 without). */
    private record Plans(String told, Plain plain, SecretForces x, List<List<Integer>> splits, int[][] weights) {
        static Plans of(Random random, Plain plain) {
            SecretForces x = plain.object();
            List<List<Integer>> splits = List.of(some(random, plain, 0, 8), some(random, plain, 1, 8));
            int[][] weights = new int[2][];
            StringBuilder told = new StringBuilder(plain.toString());
            for (int side = 0; side < 2; side++) {
                weights[side] = new int[plain.size(side)];
                int many = 0;
                for (int i : splits.get(side)) {
                    weights[side][i] = 1 + random.nextInt(random.nextBoolean() ? 3 : 99);
                    many++;
                    Due.is("entries, " + told, x.plan(side, i, weights[side][i]), many);
                    told.append(", ").append(side).append(": ").append(i).append('*').append(weights[side][i]);
                }
            }
            return new Plans(told.toString(), plain, x, splits, weights);
        }

        int all(int side) {
            return Arrays.stream(weights[side]).sum();
        }

        Model.Frac[] shares(int side) {
            Model.Frac[] found = new Model.Frac[weights[side].length];
            for (int i = 0; i < found.length; i++) {
                found[i] = frac(weights[side][i], all(side));
            }
            return found;
        }

        Model.Frac[] evenShares(int side) {
            Model.Frac[] found = new Model.Frac[weights[side].length];
            Arrays.fill(found, Model.ZERO);
            for (int i : splits.get(side)) {
                for (int to : plain.shape(side, i)) {
                    found[to] = found[to].plus(frac(weights[side][i], (long) all(side) * plain.shape(side, i).size()));
                }
            }
            return found;
        }

        /** What such shares gain for their SIDE against each SPLIT of the other one. */
        List<Model.Frac> gains(int side, Model.Frac[] shares) {
            List<Model.Frac> found = new ArrayList<>();
            for (int j = 0; j < plain.size(1 - side); j++) {
                Model.Frac sum = Model.ZERO;
                for (int i = 0; i < shares.length; i++) {
                    sum = sum.plus(shares[i].times(frac(plain.gain(side, i, j), 1)));
                }
                found.add(sum);
            }
            return found;
        }

        Model.Frac hold(int side) {
            return lowest("hold " + side + ", " + told, x.hold(side, 0), x.hold(side, 1));
        }
    }

    private static Model.Frac least(List<Model.Frac> gains) {
        return gains.stream().min(Model.Frac::compareTo).get();
    }

    private static void shares() {
        Doc.says(Doc.TERMS, "shares are WEIGHTS by all of them together");
        Random random = new Random(SEED + 2);
        // no FIELDS are ALIKE, so EVEN shares are shares
        Plans plans = Plans.of(random, new Plain(new int[] {3, 1, 4}, new int[] {5, 4}, 0));
        for (int side = 0; side < 2; side++) {
            for (int i = 0; i < plans.plain.size(side); i++) {
                Model.Frac found = lowest("share " + i, plans.x.evenShare(side, i, 0), plans.x.evenShare(side, i, 1));
                Due.same("share " + i + ", " + plans.told, found.toString(), plans.shares(side)[i].toString());
            }
        }

        Doc.says(26, "how many ENTRIES");
        SecretForces x = new SecretForces();
        Due.is("one", x.plan(0, 3, 5), 1);
        Due.is("two", x.plan(0, 2, 5), 2);
        Due.is("two still", x.plan(0, 3, 9), 2);
        Due.is("one again", x.plan(0, 3, 0), 1);
        Due.is("none again", x.plan(0, 2, 0), 0);

        Doc.says(27, "Of the k-th ENTRY, what 0: the SPLIT, 1: its WEIGHT");
        for (int side = 0; side < 2; side++) {
            for (int k = 0; k < plans.splits.get(side).size(); k++) {
                int i = plans.splits.get(side).get(k);
                Due.is("entry " + k + ", " + plans.told, plans.x.entry(side, k, 0), i);
                Due.is("its weight " + k + ", " + plans.told, plans.x.entry(side, k, 1), plans.weights[side][i]);
            }
        }

        Doc.says(27, "how many (k NONE)");
        Due.is("of 0", plans.x.entry(0, -1, 0), plans.splits.get(0).size());
        Due.is("of 1", plans.x.entry(1, -1, 0), plans.splits.get(1).size());
    }

    private static void holds() {
        Doc.says(28, "HOLD of a PLAN, above, below");
        Random random = new Random(SEED + 3);
        for (Plain plain : Plain.many()) {
            Plans plans = Plans.of(random, plain);
            for (int side = 0; side < 2; side++) {
                Model.Frac due = least(plans.gains(side, plans.shares(side)));
                Due.same("hold " + side + ", " + plans.told, plans.hold(side).toString(), due.toString());
            }
        }

        Doc.says(29, "REPLY to the PLAN of a SIDE");
        for (Plain plain : Plain.many()) {
            Plans plans = Plans.of(random, plain);
            for (int side = 0; side < 2; side++) {
                List<Model.Frac> gains = plans.gains(side, plans.shares(side));
                Due.is("reply to " + side + ", " + plans.told, plans.x.reply(side), gains.indexOf(least(gains)));
            }
        }

        Doc.says(30, "1 if they MEET, else 0");
        for (Plain plain : Plain.many()) {
            Plans plans = Plans.of(random, plain);
            Model.Frac sum = least(plans.gains(0, plans.shares(0))).plus(least(plans.gains(1, plans.shares(1))));
            Due.is("meet, " + plans.told, plans.x.meet(), sum.equals(Model.ZERO) ? 1 : 0);
        }
        Due.is("each by halves", Edge.told("fields 1 1; forces 1 1; plan 0 01 weight 5 10 weight 5; plan 1 10 weight 3").meet(), 1);
        Due.is("ties to side 0", Edge.told("fields 1 1; forces 1 1; ties 1; plan 0 01 weight 1; plan 1 10 weight 1").meet(), 0);
    }

    private static void even() {
        Doc.says(31, "HOLD, were a PLAN EVEN, above, below");
        Random random = new Random(SEED + 4);
        for (Plain plain : Plain.many()) {
            Plans plans = Plans.of(random, plain);
            for (int side = 0; side < 2; side++) {
                Model.Frac found = lowest("evenHold", plans.x.evenHold(side, 0), plans.x.evenHold(side, 1));
                Model.Frac due = least(plans.gains(side, plans.evenShares(side)));
                Due.same("evenHold " + side + ", " + plans.told, found.toString(), due.toString());
            }
        }
    }

    // ---- drawing

    private static void byChance() {
        Doc.says(Doc.TERMS, "DRAWS: a STATE (an int, 0 at first) becomes 1664525 times itself + 1013904223 (ints, which wrap);"
            + " its highest 24 bits (without sign) modulo all WEIGHTS: the ENTRY in whose part that lies");
        Random random = new Random(SEED + 5);
        for (Plain plain : Plain.many()) {
            Plans plans = Plans.of(random, plain);
            long state = 0;
            for (int k = 0; k < 60; k++) {
                int side = k % 3 == 0 ? 0 : 1;
                state = (state * 1664525 + 1013904223) % (1L << 32);
                Due.is("draw " + k + ", " + plans.told, plans.x.draw(side, false), atPart(plans, side, state / 256));
            }
        }

        Doc.says(36, "A SPLIT is DRAWN from a PLAN, by chance, or by turns: its number");
        SecretForces x = Edge.told("fields 1 1; forces 2 1; plan 0 20 weight 1; plan 1 10 weight 9");
        for (int k = 0; k < 4; k++) {
            Due.is("of side 0", x.draw(0, k % 2 == 0), 2);
            Due.is("of side 1", x.draw(1, k % 2 == 0), 1);
        }
    }

    private static int atPart(Plans plans, int side, long bits) {
        long rest = bits % plans.all(side);
        for (int i : plans.splits.get(side)) {
            if (rest < plans.weights[side][i]) {
                return i;
            }
            rest -= plans.weights[side][i];
        }
        return -1;
    }

    private static void byTurns() {
        Doc.says(Doc.TERMS, "TURNS: each time the ENTRY of which its WEIGHT times how many turns there are then,"
            + " less how often it was drawn by turns times all WEIGHTS, is greatest, of several the first");
        Random random = new Random(SEED + 6);
        for (Plain plain : Plain.many()) {
            Plans plans = Plans.of(random, plain);
            for (int side = 0; side < 2; side++) {
                int[] drawn = new int[plain.size(side)];
                for (int turns = 1; turns <= 60; turns++) {
                    int next = mostOwed(plans, side, turns, drawn);
                    Due.is("turn " + turns + " of " + side + ", " + plans.told, plans.x.draw(side, true), next);
                    drawn[next]++;
                }
                for (int k = 0; k < plans.splits.get(side).size(); k++) {
                    Due.is("how often " + k + ", " + plans.told, plans.x.entry(side, k, 2), drawn[plans.splits.get(side).get(k)]);
                }
            }
        }
    }

    private static int mostOwed(Plans plans, int side, int turns, int[] drawn) {
        int next = -1;
        long most = Long.MIN_VALUE;
        for (int i : plans.splits.get(side)) {
            long owed = (long) plans.weights[side][i] * turns - (long) drawn[i] * plans.all(side);
            if (owed > most) {
                most = owed;
                next = i;
            }
        }
        return next;
    }

    private static void seen() {
        Doc.says(Doc.TERMS, "CHANCES: the share of SPLITS seen");
        // of 4 seen 3 are 02, 1 is 20; 02 has a share of 1/2, 11 of 1/2
        SecretForces x = Edge.told("fields 1 1; forces 2 1; plan 0 02 weight 2 11 weight 2");
        for (int i : new int[] {0, 0, 2, 0}) {
            x.note(0, i);
        }
        Edge.fraction("11 is apart most", x.apart(0, 0), x.apart(0, 1), 1, 2);

        Doc.says(40, "are apart, above, below");
        Random random = new Random(SEED + 7);
        for (Plain plain : Plain.many()) {
            Plans plans = Plans.of(random, plain);
            for (int side = 0; side < 2; side++) {
                int[] often = notes(random, plans, side);
                Model.Frac most = Model.ZERO;
                for (int i = 0; i < often.length; i++) {
                    Model.Frac apart = frac(often[i], Arrays.stream(often).sum()).minus(plans.shares(side)[i]);
                    most = List.of(most, apart, Model.ZERO.minus(apart)).stream().max(Model.Frac::compareTo).get();
                }
                Model.Frac found = lowest("apart", plans.x.apart(side, 0), plans.x.apart(side, 1));
                Due.same("apart " + side + ", " + plans.told, found.toString(), most.toString());
            }
        }

        Doc.says(39, "Against what was seen of the other SIDE");
        for (Plain plain : Plain.many()) {
            Plans plans = Plans.of(random, plain);
            for (int side = 0; side < 2; side++) {
                mostAgainst(plans, side, notes(random, plans, 1 - side));
            }
        }
    }

    /** Some NOTES of a SIDE: how often each SPLIT was seen. */
    private static int[] notes(Random random, Plans plans, int side) {
        int[] often = new int[plans.plain.size(side)];
        int many = 1 + random.nextInt(40);
        for (int k = 1; k <= many; k++) {
            int i = random.nextInt(often.length);
            often[i]++;
            Due.is("note " + k + ", " + plans.told, plans.x.note(side, i), k);
        }
        return often;
    }

    private static void mostAgainst(Plans plans, int side, int[] often) {
        int first = -1;
        int most = Edge.LEAST;
        for (int i = 0; i < plans.plain.size(side); i++) {
            int sum = 0;
            for (int j = 0; j < often.length; j++) {
                sum += often[j] * plans.plain.gain(side, i, j);
            }
            if (sum > most) {
                most = sum;
                first = i;
            }
        }
        Due.is("against, split of " + side + ", " + plans.told, plans.x.against(side, 0), first);
        Due.is("against, how much of " + side + ", " + plans.told, plans.x.against(side, 1), most);
    }
}
