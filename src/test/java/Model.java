import java.math.BigInteger;
import java.util.ArrayList;
import java.util.Arrays;
import java.util.LinkedHashMap;
import java.util.List;
import java.util.Map;
import java.util.NoSuchElementException;
import java.util.TreeMap;
import java.util.TreeSet;

/** The document once more, by other ways and without thrift: all is tried out. */
final class Model {
    /** A fraction in lowest terms. */
    record Frac(BigInteger above, BigInteger below) implements Comparable<Frac> {
        static Frac of(long above, long below) {
            return of(BigInteger.valueOf(above), BigInteger.valueOf(below));
        }

        static Frac of(BigInteger above, BigInteger below) {
            BigInteger common = above.gcd(below);
            BigInteger sign = BigInteger.valueOf(below.signum());
            return new Frac(above.divide(common).multiply(sign), below.divide(common).multiply(sign));
        }

        Frac plus(Frac o) {
            return of(above.multiply(o.below).add(o.above.multiply(below)), below.multiply(o.below));
        }

        Frac minus(Frac o) {
            return plus(of(o.above.negate(), o.below));
        }

        Frac times(Frac o) {
            return of(above.multiply(o.above), below.multiply(o.below));
        }

        Frac over(Frac o) {
            return of(above.multiply(o.below), below.multiply(o.above));
        }

        public int compareTo(Frac o) {
            return above.multiply(o.below).compareTo(o.above.multiply(below));
        }

        int part(int what) {
            return what == 0 ? above.intValueExact() : below.intValueExact();
        }
    }

    static final Frac ZERO = Frac.of(0, 1);
    static final Frac ONE = Frac.of(1, 1);

    List<Integer> worths = new ArrayList<>(List.of(1, 1, 1));
    int[] forces = {5, 4};
    int ties = 0;
    List<List<List<Integer>>> books = twoLists();
    List<Map<List<Integer>, Integer>> plans = twoMaps();
    List<List<List<Integer>>> notes = twoLists();
    List<List<List<Integer>>> turns = twoLists();
    int state = 0;
    List<Integer> tape = new ArrayList<>();

    static List<List<List<Integer>>> twoLists() {
        return new ArrayList<>(List.of(new ArrayList<>(), new ArrayList<>()));
    }

    static List<Map<List<Integer>, Integer>> twoMaps() {
        return new ArrayList<>(List.of(new LinkedHashMap<>(), new LinkedHashMap<>()));
    }

    // splits are lists of numbers here, one of each field

    static List<List<Integer>> splitsOf(int many, int fields) {
        List<List<Integer>> all = new ArrayList<>();
        int codes = 1 << 3 * fields;
        for (int code = 0; code < codes; code++) {
            List<Integer> digits = new ArrayList<>();
            int sum = 0;
            for (int f = 0; f < fields; f++) {
                int d = code >> 3 * (fields - 1 - f) & 7;
                digits.add(d);
                sum += d;
            }
            if (sum == many) {
                all.add(digits);
            }
        }
        return all;
    }

    private List<List<Integer>> listed(int side) {
        int key = forces[side] * 8 + worths.size();
        return LISTED.computeIfAbsent(key, k -> splitsOf(forces[side], worths.size()));
    }

    private static final Map<Integer, List<List<Integer>>> LISTED = new TreeMap<>();

    private boolean none(int side, int i) {
        return side < 0 || side > 1 || i < 0 || i >= listed(side).size();
    }

    private static int eights(List<Integer> split) {
        int sum = 0;
        for (int d : split) {
            sum = sum * 8 + d;
        }
        return sum;
    }

    private int gainOfZero(List<Integer> zero, List<Integer> one) {
        int sum = 0;
        for (int f = 0; f < worths.size(); f++) {
            int c = Integer.compare(zero.get(f), one.get(f));
            if (c == 0) {
                c = ties == 0 ? 0 : ties == 1 ? 1 : -1;
            }
            sum += c * worths.get(f);
        }
        return sum;
    }

    private int gainOf(int side, List<Integer> mine, List<Integer> theirs) {
        return side == 0 ? gainOfZero(mine, theirs) : -gainOfZero(theirs, mine);
    }

    private void anew() {
        books = twoLists();
        plans = twoMaps();
        notes = twoLists();
        turns = twoLists();
    }

    int feed(int... five) {
        if (tape.size() + 20 > 300) {
            return -1;
        }
        for (int v : five) {
            for (int b : java.nio.ByteBuffer.allocate(4).putInt(v).array()) {
                tape.add(b & 255);
            }
        }
        return tape.size();
    }

    // ---- text: tokens first, then lines

    record Token(int place, char kind, String sign) {
    }

    static final class Fault extends Exception {
        static final long serialVersionUID = 1;
        final int answer;

        Fault(Token at, int kind) {
            answer = -2 - (8 * at.place + kind);
        }
    }

    static List<Token> tokens(String text) {
        java.util.regex.Matcher m =
            java.util.regex.Pattern.compile("[ \\n]+|(?<w>[a-z]+)|(?<n>[0-9]{1,4}(?![0-9]))|(?<s>;)").matcher(text);
        List<Token> found = new ArrayList<>();
        int at = 0;
        while (at < text.length()) {
            m.region(at, text.length());
            if (!m.lookingAt()) {
                found.add(new Token(at, 'x', ""));
                return found;
            }
            for (String kind : List.of("w", "n", "s")) {
                if (m.group(kind) != null) {
                    found.add(new Token(at, kind.charAt(0), m.group()));
                }
            }
            at = m.end();
        }
        found.add(new Token(text.length(), 'e', ""));
        return found;
    }

    int text(int n) {
        if (n < 0 || n > tape.size()) {
            return -1;
        }
        StringBuilder b = new StringBuilder();
        for (int k = 0; k < n; k++) {
            b.append((char) (int) tape.get(k));
        }
        tape.clear();
        Model other = new Model();
        other.worths = new ArrayList<>(worths);
        other.forces = forces.clone();
        other.ties = ties;
        for (int side = 0; side < 2; side++) {
            other.books.set(side, new ArrayList<>(books.get(side)));
            other.plans.set(side, new LinkedHashMap<>(plans.get(side)));
        }
        int lines;
        try {
            lines = other.lines(tokens(b.toString()));
        } catch (Fault f) {
            return f.answer;
        }
        worths = other.worths;
        forces = other.forces;
        ties = other.ties;
        books = other.books;
        plans = other.plans;
        notes = twoLists();
        turns = twoLists();
        return lines;
    }

    private int lines(List<Token> all) throws Fault {
        int at = 0;
        for (int lines = 1; ; lines++) {
            Token word = all.get(at);
            switch (word.sign) {
                case "fields" -> at = fieldsAt(all, at + 1);
                case "forces" -> {
                    int one = bounded(all.get(at + 1), 0, 7);
                    int two = bounded(all.get(at + 2), 0, 7);
                    forces = new int[] {one, two};
                    anew();
                    at += 3;
                }
                case "ties" -> {
                    ties = bounded(all.get(at + 1), 0, 2);
                    at += 2;
                }
                case "book" -> at = bookAt(all, at + 1);
                case "plan" -> at = planAt(all, at + 1);
                default -> throw new Fault(word, 1);
            }
            Token next = all.get(at);
            if (next.kind == 'e') {
                return lines;
            }
            if (next.kind != 's') {
                throw new Fault(next, 1);
            }
            at++;
        }
    }

    private static int bounded(Token t, int least, int most) throws Fault {
        if (t.kind != 'n') {
            throw new Fault(t, 1);
        }
        int v = Integer.parseInt(t.sign);
        if (v < least || v > most) {
            throw new Fault(t, 2);
        }
        return v;
    }

    private int fieldsAt(List<Token> all, int at) throws Fault {
        List<Integer> found = new ArrayList<>();
        int k = at;
        int sum = 0;
        while (k == at || all.get(k).kind == 'n') {
            int v = bounded(all.get(k), 1, 8);
            sum += v;
            if (sum > 8) {
                throw new Fault(all.get(k), 2);
            }
            if (found.size() == 4) {
                throw new Fault(all.get(k), 4);
            }
            found.add(v);
            k++;
        }
        worths = found;
        anew();
        return k;
    }

    private List<Integer> splitAt(Token t, int side) throws Fault {
        if (t.kind != 'n') {
            throw new Fault(t, 1);
        }
        List<Integer> digits = new ArrayList<>();
        for (char c : t.sign.toCharArray()) {
            digits.add(c - '0');
        }
        if (!listed(side).contains(digits)) {
            throw new Fault(t, 3);
        }
        return digits;
    }

    private int bookAt(List<Token> all, int at) throws Fault {
        int side = bounded(all.get(at), 0, 1);
        List<List<Integer>> found = new ArrayList<>();
        int k = at + 1;
        while (k == at + 1 || all.get(k).kind == 'n') {
            List<Integer> s = splitAt(all.get(k), side);
            if (found.contains(s)) {
                throw new Fault(all.get(k), 3);
            }
            found.add(s);
            if (found.size() > 6) {
                throw new Fault(all.get(k), 4);
            }
            k++;
        }
        books.set(side, found);
        return k;
    }

    private int planAt(List<Token> all, int at) throws Fault {
        int side = bounded(all.get(at), 0, 1);
        Map<List<Integer>, Integer> found = new LinkedHashMap<>();
        int k = at + 1;
        while (k == at + 1 || all.get(k).kind == 'n') {
            List<Integer> s = splitAt(all.get(k), side);
            if (found.containsKey(s)) {
                throw new Fault(all.get(k), 3);
            }
            if (found.size() == 8) {
                throw new Fault(all.get(k), 4);
            }
            if (!all.get(k + 1).sign.equals("weight")) {
                throw new Fault(all.get(k + 1), 1);
            }
            found.put(s, bounded(all.get(k + 2), 1, 99));
            k += 3;
        }
        plans.set(side, found);
        return k;
    }

    // ---- told one by one

    int field(int worth) {
        int sum = worths.stream().mapToInt(w -> w).sum();
        if (worth < 1 || worth > 8 || worths.size() == 4 || sum + worth > 8) {
            return -1;
        }
        worths.add(worth);
        anew();
        return worths.size();
    }

    int lose() {
        if (worths.size() == 1) {
            return -1;
        }
        worths.remove(worths.size() - 1);
        anew();
        return worths.size();
    }

    int forces(int side, int many) {
        if (side < 0 || side > 1 || many < 0 || many > 7) {
            return -1;
        }
        int was = forces[side];
        forces[side] = many;
        anew();
        return was;
    }

    int ties(int rule) {
        if (rule < 0 || rule > 2) {
            return -1;
        }
        int was = ties;
        ties = rule;
        return was;
    }

    int splits(int side) {
        return side < 0 || side > 1 ? -1 : listed(side).size();
    }

    int split(int side, int i) {
        if (none(side, i)) {
            throw new NoSuchElementException();
        }
        return eights(listed(side).get(i));
    }

    int number(int side, int eights) {
        for (int i = 0; i < splits(side); i++) {
            if (eights(listed(side).get(i)) == eights) {
                return i;
            }
        }
        return -1;
    }

    int gain(int one, int other) {
        return none(0, one) || none(1, other) ? -100 : gainOfZero(listed(0).get(one), listed(1).get(other));
    }

    /** What is the same for all splits of one shape and for no others. */
    private Map<Integer, List<Integer>> mark(List<Integer> split) {
        Map<Integer, List<Integer>> m = new TreeMap<>();
        for (int f = 0; f < worths.size(); f++) {
            m.computeIfAbsent(worths.get(f), w -> new ArrayList<>()).add(split.get(f));
        }
        m.values().forEach(l -> l.sort(null));
        return m;
    }

    private List<Integer> alike(int side, List<Integer> split) {
        List<Integer> found = new ArrayList<>();
        for (int j = 0; j < splits(side); j++) {
            if (mark(listed(side).get(j)).equals(mark(split))) {
                found.add(j);
            }
        }
        return found;
    }

    int shapes(int side) {
        return side < 0 || side > 1 ? -1 : (int) listed(side).stream().map(this::mark).distinct().count();
    }

    int shape(int side, int i, int what) {
        if (none(side, i) || what < 0 || what > 2) {
            return -1;
        }
        List<Integer> same = alike(side, listed(side).get(i));
        if (what == 0) {
            return same.size();
        }
        return what == 1 ? same.get(0) : (int) listed(side).subList(0, i + 1).stream().map(this::mark).distinct().count();
    }

    long ways(int many, int fields, int each) {
        if (many < 0 || many > 20 || fields < 1 || fields > 8 || each < 0 || each > 3) {
            return -1;
        }
        long[] found = new long[many + 1];
        found[0] = 1;
        for (int f = 0; f < fields; f++) {
            long[] more = new long[many + 1];
            for (int a = 0; a <= many; a++) {
                for (int b = each; a + b <= many; b++) {
                    more[a + b] += found[a];
                }
            }
            found = more;
        }
        return found[many];
    }

    int worse(int side, int i, boolean beaten) {
        if (none(side, i)) {
            return -1;
        }
        for (int j = 0; j < splits(side); j++) {
            int less = 0;
            int more = 0;
            for (List<Integer> o : listed(1 - side)) {
                int c = Integer.compare(gainOf(side, listed(side).get(i), o), gainOf(side, listed(side).get(j), o));
                less += c < 0 ? 1 : 0;
                more += c > 0 ? 1 : 0;
            }
            if (beaten ? less == splits(1 - side) : more == 0 && less > 0) {
                return j;
            }
        }
        return -2;
    }

    private static final Map<String, List<TreeSet<Integer>>> SIFTED = new LinkedHashMap<>();

    /** Those left of side 0, of side 1, and how often some went. */
    private List<TreeSet<Integer>> sifted() {
        String key = worths + Arrays.toString(forces) + ties;
        List<TreeSet<Integer>> known = SIFTED.get(key);
        if (known == null) {
            known = sift();
            SIFTED.put(key, known);
        }
        return known;
    }

    private List<TreeSet<Integer>> sift() {
        List<TreeSet<Integer>> left = new ArrayList<>();
        for (int side = 0; side < 2; side++) {
            TreeSet<Integer> all = new TreeSet<>();
            for (int i = 0; i < splits(side); i++) {
                all.add(i);
            }
            left.add(all);
        }
        int times = 0;
        while (true) {
            List<TreeSet<Integer>> stay = List.of(stay(left, 0), stay(left, 1));
            if (stay.equals(left)) {
                return List.of(left.get(0), left.get(1), new TreeSet<>(List.of(times)));
            }
            left = stay;
            times++;
        }
    }

    private TreeSet<Integer> stay(List<TreeSet<Integer>> left, int side) {
        TreeSet<Integer> stay = new TreeSet<>();
        for (int i : left.get(side)) {
            boolean beaten = left.get(side).stream().anyMatch(j -> left.get(1 - side).stream().allMatch(
                o -> gainOf(side, listed(side).get(i), listed(1 - side).get(o))
                    < gainOf(side, listed(side).get(j), listed(1 - side).get(o))));
            if (!beaten) {
                stay.add(i);
            }
        }
        return stay;
    }

    int left(int side, int i) {
        if (side < 0 || side > 1) {
            return -1;
        }
        List<Integer> left = new ArrayList<>(sifted().get(side));
        return i == -1 ? left.size() : i < 0 || i >= left.size() ? -1 : left.get(i);
    }

    int rounds() {
        return sifted().get(2).first();
    }

    int safe(int side, int i) {
        if (side < 0 || side > 1 || i != -1 && none(side, i)) {
            return -100;
        }
        int most = -1000;
        for (int j = 0; j < splits(side); j++) {
            int least = 1000;
            for (List<Integer> o : listed(1 - side)) {
                least = Math.min(least, gainOf(side, listed(side).get(j), o));
            }
            most = i == -1 || i == j ? Math.max(most, least) : most;
        }
        return most;
    }

    // ---- books

    int add(int side, int i) {
        if (none(side, i) || books.get(side).size() == 6 || books.get(side).contains(listed(side).get(i))) {
            return -1;
        }
        books.get(side).add(listed(side).get(i));
        return books.get(side).size();
    }

    int shut(int side) {
        if (side < 0 || side > 1) {
            return -1;
        }
        int was = books.get(side).size();
        books.get(side).clear();
        return was;
    }

    int book(int side, int k) {
        if (side < 0 || side > 1 || k < -1 || k >= books.get(side).size()) {
            return -1;
        }
        return k == -1 ? books.get(side).size() : listed(side).indexOf(books.get(side).get(k));
    }

    /** What a side gains at least at the best, and behind it its greatest row of shares: by all corners. */
    static List<Frac> solved(int[][] gains) {
        int rows = gains.length;
        int columns = gains[0].length;
        List<Frac> best = null;
        for (int r = 1; r < 1 << rows; r++) {
            for (int c = 1; c < 1 << columns; c++) {
                if (Integer.bitCount(r) != Integer.bitCount(c)) {
                    continue;
                }
                List<Frac> corner = corner(gains, r, c);
                if (corner != null && (best == null || compare(corner, best) > 0)) {
                    best = corner;
                }
            }
        }
        return best;
    }

    private static int compare(List<Frac> one, List<Frac> other) {
        for (int k = 0; k < one.size(); k++) {
            int c = one.get(k).compareTo(other.get(k));
            if (c != 0) {
                return c;
            }
        }
        return 0;
    }

    private static List<Frac> corner(int[][] gains, int r, int c) {
        int size = Integer.bitCount(r);
        Frac[][] m = new Frac[size + 1][size + 2];
        int line = 0;
        for (int j = 0; j < gains[0].length; j++) {
            if ((c >> j & 1) == 0) {
                continue;
            }
            int k = 0;
            for (int i = 0; i < gains.length; i++) {
                if ((r >> i & 1) != 0) {
                    m[line][k++] = Frac.of(gains[i][j], 1);
                }
            }
            m[line][size] = Frac.of(-1, 1);
            m[line][size + 1] = ZERO;
            line++;
        }
        Arrays.fill(m[size], ONE);
        m[size][size] = ZERO;
        if (!reduce(m)) {
            return null;
        }
        Frac[] row = new Frac[gains.length];
        Arrays.fill(row, ZERO);
        int k = 0;
        for (int i = 0; i < gains.length; i++) {
            if ((r >> i & 1) != 0) {
                row[i] = m[k][size + 1];
                if (row[i].compareTo(ZERO) < 0) {
                    return null;
                }
                k++;
            }
        }
        for (int j = 0; j < gains[0].length; j++) {
            Frac sum = ZERO;
            for (int i = 0; i < gains.length; i++) {
                sum = sum.plus(row[i].times(Frac.of(gains[i][j], 1)));
            }
            if (sum.compareTo(m[size][size + 1]) < 0) {
                return null;
            }
        }
        List<Frac> found = new ArrayList<>(List.of(m[size][size + 1]));
        found.addAll(List.of(row));
        return found;
    }

    private static boolean reduce(Frac[][] m) {
        int n = m.length;
        for (int p = 0; p < n; p++) {
            int at = p;
            while (at < n && m[at][p].compareTo(ZERO) == 0) {
                at++;
            }
            if (at == n) {
                return false;
            }
            Frac[] keep = m[at];
            m[at] = m[p];
            m[p] = keep;
            Frac by = m[p][p];
            for (int k = p; k <= n; k++) {
                m[p][k] = m[p][k].over(by);
            }
            for (int i = 0; i < n; i++) {
                Frac times = m[i][p];
                for (int k = p; k <= n && i != p; k++) {
                    m[i][k] = m[i][k].minus(times.times(m[p][k]));
                }
            }
        }
        return true;
    }

    private static final Map<String, List<Frac>> SOLVED = new LinkedHashMap<>();

    private List<Frac> solved(int side, List<List<Integer>> mine, List<List<Integer>> theirs) {
        int[][] gains = new int[mine.size()][theirs.size()];
        for (int i = 0; i < mine.size(); i++) {
            for (int j = 0; j < theirs.size(); j++) {
                gains[i][j] = gainOf(side, mine.get(i), theirs.get(j));
            }
        }
        return SOLVED.computeIfAbsent(Arrays.deepToString(gains), k -> solved(gains));
    }

    private boolean unread() {
        return books.get(0).isEmpty() || books.get(1).isEmpty();
    }

    int value(int what) {
        return what < 0 || what > 1 || unread() ? -100 : solved(0, books.get(0), books.get(1)).get(0).part(what);
    }

    int best(int side, int k, int what) {
        if (side < 0 || side > 1 || what < 0 || what > 1 || unread() || k < 0 || k >= books.get(side).size()) {
            return -1;
        }
        return solved(side, books.get(side), books.get(1 - side)).get(k + 1).part(what);
    }

    int valueWith(int side, int i, int what) {
        if (what < 0 || what > 1 || none(side, i) || unread() || books.get(side).size() == 6
                || books.get(side).contains(listed(side).get(i))) {
            return -100;
        }
        List<List<Integer>> more = new ArrayList<>(books.get(side));
        more.add(listed(side).get(i));
        return solved(0, side == 0 ? more : books.get(0), side == 1 ? more : books.get(1)).get(0).part(what);
    }

    int needless(int side) {
        if (side < 0 || side > 1 || unread()) {
            return -1;
        }
        Frac all = solved(0, books.get(0), books.get(1)).get(0);
        for (int k = 0; k < books.get(side).size() && books.get(side).size() > 1; k++) {
            List<List<Integer>> less = new ArrayList<>(books.get(side));
            less.remove(k);
            if (solved(0, side == 0 ? less : books.get(0), side == 1 ? less : books.get(1)).get(0).equals(all)) {
                return k;
            }
        }
        return -2;
    }

    // ---- plans

    int plan(int side, int i, int weight) {
        if (none(side, i) || weight < 0 || weight > 99) {
            return -1;
        }
        List<Integer> s = listed(side).get(i);
        Map<List<Integer>, Integer> p = plans.get(side);
        if (!p.containsKey(s) && (weight == 0 || p.size() == 8)) {
            return -1;
        }
        if (weight == 0) {
            p.remove(s);
        } else {
            p.put(s, weight);
        }
        turns.get(side).clear();
        return p.size();
    }

    int entry(int side, int k, int what) {
        if (side < 0 || side > 1 || what < 0 || what > 2) {
            return -1;
        }
        List<List<Integer>> list = new ArrayList<>(plans.get(side).keySet());
        if (k == -1) {
            return list.size();
        }
        if (k < 0 || k >= list.size()) {
            return -1;
        }
        List<Integer> s = list.get(k);
        return what == 0 ? listed(side).indexOf(s) : what == 1 ? plans.get(side).get(s)
            : (int) turns.get(side).stream().filter(s::equals).count();
    }

    private boolean planless(int side) {
        return side < 0 || side > 1 || plans.get(side).isEmpty();
    }

    private int all(int side) {
        return plans.get(side).values().stream().mapToInt(w -> w).sum();
    }

    private Map<List<Integer>, Frac> shares(int side, boolean even) {
        Map<List<Integer>, Frac> found = new LinkedHashMap<>();
        plans.get(side).forEach((s, w) -> {
            List<Integer> to = even ? alike(side, s) : List.of(listed(side).indexOf(s));
            for (int j : to) {
                found.merge(listed(side).get(j), Frac.of(w, (long) all(side) * to.size()), Frac::plus);
            }
        });
        return found;
    }

    private Frac gainOf(int side, Map<List<Integer>, Frac> shares, List<Integer> other) {
        Frac sum = ZERO;
        for (Map.Entry<List<Integer>, Frac> e : shares.entrySet()) {
            sum = sum.plus(e.getValue().times(Frac.of(gainOf(side, e.getKey(), other), 1)));
        }
        return sum;
    }

    private int replyTo(int side, Map<List<Integer>, Frac> shares) {
        int first = -1;
        Frac least = null;
        for (int i = 0; i < splits(1 - side); i++) {
            Frac g = gainOf(side, shares, listed(1 - side).get(i));
            if (least == null || g.compareTo(least) < 0) {
                least = g;
                first = i;
            }
        }
        return first;
    }

    private Frac held(int side, boolean even) {
        Map<List<Integer>, Frac> s = shares(side, even);
        return gainOf(side, s, listed(1 - side).get(replyTo(side, s)));
    }

    int hold(int side, int what) {
        return planless(side) || what < 0 || what > 1 ? -100 : held(side, false).part(what);
    }

    int reply(int side) {
        return planless(side) ? -1 : replyTo(side, shares(side, false));
    }

    int meet() {
        return planless(0) || planless(1) ? -1 : held(0, false).plus(held(1, false)).equals(ZERO) ? 1 : 0;
    }

    int evenHold(int side, int what) {
        return planless(side) || what < 0 || what > 1 ? -100 : held(side, true).part(what);
    }

    int evenShare(int side, int i, int what) {
        if (none(side, i) || planless(side) || what < 0 || what > 1) {
            return -1;
        }
        return shares(side, true).getOrDefault(listed(side).get(i), ZERO).part(what);
    }

    int both(int what) {
        if (planless(0) || planless(1) || what < 0 || what > 1) {
            return -100;
        }
        Frac sum = ZERO;
        for (Map.Entry<List<Integer>, Frac> e : shares(1, false).entrySet()) {
            sum = sum.plus(e.getValue().times(gainOf(0, shares(0, false), e.getKey())));
        }
        return sum.part(what);
    }

    int mean(int side, int field, int what) {
        if (planless(side) || field < 0 || field >= worths.size() || what < 0 || what > 1) {
            return -1;
        }
        Frac sum = ZERO;
        for (Map.Entry<List<Integer>, Frac> e : shares(side, false).entrySet()) {
            sum = sum.plus(e.getValue().times(Frac.of(e.getKey().get(field), 1)));
        }
        return sum.part(what);
    }

    // ---- drawing

    int state(int v) {
        int was = state;
        state = v;
        return was;
    }

    private List<Integer> drawn(int side) {
        state = BigInteger.valueOf(state).multiply(BigInteger.valueOf(1664525)).add(BigInteger.valueOf(1013904223)).intValue();
        long part = (state & 0xffffffffL) / 256 % all(side);
        List<List<Integer>> urn = new ArrayList<>();
        plans.get(side).forEach((s, w) -> {
            for (int k = 0; k < w; k++) {
                urn.add(s);
            }
        });
        return urn.get((int) part);
    }

    int draw(int side, boolean byTurns) {
        if (planless(side)) {
            return -1;
        }
        if (!byTurns) {
            return listed(side).indexOf(drawn(side));
        }
        List<Integer> next = null;
        long most = 0;
        for (Map.Entry<List<Integer>, Integer> e : plans.get(side).entrySet()) {
            long often = turns.get(side).stream().filter(e.getKey()::equals).count();
            long owed = (long) e.getValue() * (turns.get(side).size() + 1) - often * all(side);
            if (next == null || owed > most) {
                next = e.getKey();
                most = owed;
            }
        }
        turns.get(side).add(next);
        return listed(side).indexOf(next);
    }

    int match(int n) {
        if (n < 1 || n > 200 || planless(0) || planless(1)) {
            return -10000;
        }
        int sum = 0;
        for (int k = 0; k < n; k++) {
            List<Integer> zero = drawn(0);
            sum += gainOfZero(zero, drawn(1));
        }
        return sum;
    }

    int note(int side, int i) {
        if (none(side, i) || notes.get(side).size() == 40) {
            return -1;
        }
        notes.get(side).add(listed(side).get(i));
        return notes.get(side).size();
    }

    int against(int side, int what) {
        if (side < 0 || side > 1 || what < 0 || what > 1 || notes.get(1 - side).isEmpty()) {
            return -10000;
        }
        int first = -1;
        int most = 0;
        for (int i = 0; i < splits(side); i++) {
            int sum = 0;
            for (List<Integer> seen : notes.get(1 - side)) {
                sum += gainOf(side, listed(side).get(i), seen);
            }
            if (first == -1 || sum > most) {
                first = i;
                most = sum;
            }
        }
        return what == 0 ? first : most;
    }

    int apart(int side, int what) {
        if (planless(side) || what < 0 || what > 1 || notes.get(side).isEmpty()) {
            return -1;
        }
        Frac most = ZERO;
        for (List<Integer> s : listed(side)) {
            long often = notes.get(side).stream().filter(s::equals).count();
            Frac d = Frac.of(often, notes.get(side).size()).minus(shares(side, false).getOrDefault(s, ZERO));
            d = d.compareTo(ZERO) < 0 ? ZERO.minus(d) : d;
            most = d.compareTo(most) > 0 ? d : most;
        }
        return most.part(what);
    }

    int count(int what) {
        int[] all = {worths.size(), forces[0], forces[1], ties, worths.stream().mapToInt(w -> w).sum(),
            books.get(0).size(), books.get(1).size(), plans.get(0).size(), plans.get(1).size(),
            notes.get(0).size(), notes.get(1).size(), state, tape.size()};
        if (what >= 0 && what < all.length) {
            return all[what];
        }
        if (what < 20 || what > 23) {
            return -100;
        }
        return what - 20 < worths.size() ? worths.get(what - 20) : 0;
    }
}
