import java.util.ArrayList;
import java.util.Collections;
import java.util.List;
import java.util.Random;

/** Promises 22 to 25 over many books, most of them with several best rows of shares. */
public final class BookTest {
    private BookTest() {
    }

    public static void main(String[] args) {
        long first = args.length > 0 ? Long.parseLong(args[0]) : 1;
        int runs = args.length > 1 ? Integer.parseInt(args[1]) : 700;
        for (long seed = first; seed < first + runs; seed++) {
            compare(seed);
        }
        Due.end("BookTest");
    }

    private static void compare(long seed) {
        Random random = new Random(seed);
        SecretForces x = new SecretForces();
        Model m = new Model();
        if (random.nextBoolean()) {
            int worth = 1 + random.nextInt(5);
            x.field(worth);
            m.field(worth);
        }
        for (int side = 0; side < 2; side++) {
            int many = 1 + random.nextInt(7);
            x.forces(side, many);
            m.forces(side, many);
        }
        int rule = random.nextInt(3);
        x.ties(rule);
        m.ties(rule);
        for (int side = 0; side < 2; side++) {
            List<Integer> all = new ArrayList<>();
            for (int i = 0; i < m.splits(side); i++) {
                all.add(i);
            }
            Collections.shuffle(all, random);
            int many = Math.min(all.size(), 2 + random.nextInt(5));
            for (int i : all.subList(0, many)) {
                x.add(side, i);
                m.add(side, i);
            }
        }
        for (int what = 0; what < 2; what++) {
            Due.is("seed " + seed + " value " + what, x.value(what), m.value(what));
            for (int side = 0; side < 2; side++) {
                for (int k = 0; k < m.book(side, -1); k++) {
                    Due.is("seed " + seed + " best " + side + " " + k + " " + what, x.best(side, k, what), m.best(side, k, what));
                }
            }
        }
        if (seed % 10 == 0) {
            for (int side = 0; side < 2; side++) {
                Due.is("seed " + seed + " needless " + side, x.needless(side), m.needless(side));
            }
        }
    }
}
