import java.util.ArrayList;
import java.util.Comparator;
import java.util.List;
import java.util.Set;
import java.util.TreeSet;

/** FIELDS, FORCES and TIES with their SPLITS and GAINS, worked out from the words of 'Terms' alone. */
final class Plain {
    private static final int[][] WORTHS = {{1}, {8}, {1, 1}, {2, 1}, {3, 5}, {1, 1, 1}, {1, 2, 1}, {3, 1, 4},
        {1, 1, 1, 1}, {2, 1, 1, 2}, {1, 2, 3, 1}};
    private static final int[][] FORCES = {{5, 4}, {3, 3}, {0, 2}, {2, 1}, {7, 1}, {1, 6}};

    final int[] worths;
    final int[] forces;
    final int ties;
    final List<List<int[]>> splits = new ArrayList<>();

    Plain(int[] worths, int[] forces, int ties) {
        this.worths = worths;
        this.forces = forces;
        this.ties = ties;
        for (int many : forces) {
            List<int[]> found = parted(many, worths.length);
            found.sort(Comparator.comparingInt(Plain::eights));
            splits.add(found);
        }
    }

    /** Settings of all sizes, with each of the three TIES. */
    static List<Plain> many() {
        List<Plain> found = new ArrayList<>();
        for (int[] worths : WORTHS) {
            for (int k = 0; k < FORCES.length; k++) {
                found.add(new Plain(worths, FORCES[k], (k + worths.length + worths[0]) % 3));
            }
        }
        return found;
    }

    /** All ways to part so many, in some order. */
    static List<int[]> parted(int many, int fields) {
        List<int[]> found = new ArrayList<>();
        part(new int[fields], 0, many, found);
        return found;
    }

    private static void part(int[] begun, int field, int rest, List<int[]> found) {
        if (field == begun.length) {
            if (rest == 0) {
                found.add(begun.clone());
            }
            return;
        }
        for (int here = rest; here >= 0; here--) {
            begun[field] = here;
            part(begun, field + 1, rest - here, found);
        }
        begun[field] = 0;
    }

    static int eights(int[] split) {
        int sum = 0;
        for (int here : split) {
            sum = 8 * sum + here;
        }
        return sum;
    }

    SecretForces object() {
        return Edge.told(toString());
    }

    @Override
    public String toString() {
        StringBuilder b = new StringBuilder("fields");
        for (int worth : worths) {
            b.append(' ').append(worth);
        }
        b.append("; forces ").append(forces[0]).append(' ').append(forces[1]);
        return b.append("; ties ").append(ties).toString();
    }

    int size(int side) {
        return splits.get(side).size();
    }

    /** What a SIDE gains by its i-th SPLIT against the j-th one of the other SIDE. */
    int gain(int side, int i, int j) {
        int[] zero = splits.get(0).get(side == 0 ? i : j);
        int[] one = splits.get(1).get(side == 0 ? j : i);
        int sum = 0;
        for (int field = 0; field < worths.length; field++) {
            if (zero[field] > one[field] || zero[field] == one[field] && ties == 1) {
                sum += worths[field];
            } else if (zero[field] < one[field] || ties == 2) {
                sum -= worths[field];
            }
        }
        return side == 0 ? sum : -sum;
    }

    /** All that come of a SPLIT by changing numbers of two FIELDS of like WORTH, again and again. */
    Set<Integer> shape(int side, int i) {
        Set<Integer> found = new TreeSet<>();
        List<int[]> open = new ArrayList<>(List.of(splits.get(side).get(i)));
        while (!open.isEmpty()) {
            int[] split = open.remove(open.size() - 1);
            if (!found.add(numberOf(side, split))) {
                continue;
            }
            for (int one = 0; one < worths.length; one++) {
                for (int other = 0; other < one; other++) {
                    if (worths[one] == worths[other]) {
                        int[] changed = split.clone();
                        changed[one] = split[other];
                        changed[other] = split[one];
                        open.add(changed);
                    }
                }
            }
        }
        return found;
    }

    private int numberOf(int side, int[] split) {
        int i = 0;
        while (eights(splits.get(side).get(i)) != eights(split)) {
            i++;
        }
        return i;
    }
}
