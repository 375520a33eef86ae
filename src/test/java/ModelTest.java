import java.util.ArrayList;
import java.util.List;
import java.util.NoSuchElementException;
import java.util.Random;

/** Long runs of calls by chance, on the class and on the model: all promises at once. */
public final class ModelTest {
    private static final int RUNS = 260;
    /** What later calls answer is free. */
    private static final int CALLS = 512;

    private final Random random;
    private SecretForces x;
    private Model m;
    private String call = "";
    private int made = 0;

    private ModelTest(long seed) {
        random = new Random(seed);
    }

    public static void main(String[] args) {
        long first = args.length > 0 ? Long.parseLong(args[0]) : 1;
        int runs = args.length > 1 ? Integer.parseInt(args[1]) : RUNS;
        for (long seed = first; seed < first + runs; seed++) {
            new ModelTest(seed).run(seed);
        }
        Due.end("ModelTest");
    }

    private void run(long seed) {
        x = new SecretForces();
        m = new Model();
        // some runs change the setting often, others seldom
        int changes = random.nextInt(4) == 0 ? 30 : 4;
        while (made < CALLS) {
            made++;
            String want;
            String got;
            int kind = random.nextInt(100) < changes ? random.nextInt(6) : 6 + random.nextInt(37);
            long[] answers = new long[2];
            try {
                answers = ask(kind);
                got = String.valueOf(answers[0]);
                want = String.valueOf(answers[1]);
            } catch (NoSuchElementException e) {
                got = "throws";
                want = modelThrows();
            } catch (RuntimeException e) {
                got = e.toString();
                want = "no such exception";
            }
            Due.same("seed " + seed + " call " + made + " " + call, got, want);
        }
    }

    private int askedSide;
    private int askedNumber;

    private String modelThrows() {
        try {
            return String.valueOf(m.split(askedSide, askedNumber));
        } catch (NoSuchElementException e) {
            return "throws";
        }
    }

    private int side() {
        int r = random.nextInt(40);
        return r == 0 ? -1 : r == 1 ? 2 : r == 2 ? random.nextInt() : r & 1;
    }

    private int what(int most) {
        int r = random.nextInt(40);
        return r == 0 ? -1 : r == 1 ? most + 1 : r == 2 ? random.nextInt() : random.nextInt(most + 1);
    }

    private int of(int side) {
        int many = Math.max(1, m.splits(side));
        int r = random.nextInt(40);
        return r == 0 ? -1 : r == 1 ? many : r == 2 ? random.nextInt() : random.nextInt(many);
    }

    private int at(int many) {
        int r = random.nextInt(12);
        return r == 0 ? -1 : r == 1 ? many : r == 2 ? random.nextInt() : random.nextInt(Math.max(1, many));
    }

    private long[] two(long got, long want) {
        return new long[] {got, want};
    }

    private void tell(Object... parts) {
        StringBuilder b = new StringBuilder();
        for (Object part : parts) {
            b.append(part).append(' ');
        }
        call = b.toString();
    }

    private long[] ask(int kind) {
        int s = side();
        int w = what(1);
        int i = of(s);
        switch (kind) {
            case 0, 1: return text();
            case 2: { int v = what(8); tell("field", v); return two(x.field(v), m.field(v)); }
            case 3: { tell("lose"); return two(x.lose(), m.lose()); }
            case 4: { int v = what(7); tell("forces", s, v); return two(x.forces(s, v), m.forces(s, v)); }
            case 5: { int v = what(2); tell("ties", v); return two(x.ties(v), m.ties(v)); }
            case 6: { tell("splits", s); return two(x.splits(s), m.splits(s)); }
            case 7: { askedSide = s; askedNumber = i; tell("split", s, i); return two(x.split(s, i), m.split(s, i)); }
            case 8: {
                int v = i >= 0 && i < m.splits(s) && random.nextInt(4) > 0 ? m.split(s, i) : random.nextInt(4100) - 2;
                tell("number", s, v);
                return two(x.number(s, v), m.number(s, v));
            }
            case 9: { int a = of(0); int b = of(1); tell("gain", a, b); return two(x.gain(a, b), m.gain(a, b)); }
            case 10: { tell("shapes", s); return two(x.shapes(s), m.shapes(s)); }
            case 11: { int v = what(2); tell("shape", s, i, v); return two(x.shape(s, i, v), m.shape(s, i, v)); }
            case 12: {
                int a = what(20); int b = what(8); int c = what(3);
                tell("ways", a, b, c);
                return two(x.ways(a, b, c), m.ways(a, b, c));
            }
            case 13: { boolean b = random.nextBoolean(); tell("worse", s, i, b); return two(x.worse(s, i, b), m.worse(s, i, b)); }
            case 14: { int k = at(20); tell("left", s, k); return two(x.left(s, k), m.left(s, k)); }
            case 15: { tell("rounds"); return two(x.rounds(), m.rounds()); }
            case 16: { int k = random.nextInt(3) == 0 ? -1 : i; tell("safe", s, k); return two(x.safe(s, k), m.safe(s, k)); }
            case 17, 18: { tell("add", s, i); return two(x.add(s, i), m.add(s, i)); }
            case 19: {
                if (random.nextInt(4) > 0) {
                    tell("add", s, i);
                    return two(x.add(s, i), m.add(s, i));
                }
                tell("shut", s);
                return two(x.shut(s), m.shut(s));
            }
            case 20: { int k = at(6); tell("book", s, k); return two(x.book(s, k), m.book(s, k)); }
            case 21: { tell("value", w); return two(x.value(w), m.value(w)); }
            case 22, 23: { int k = at(6); tell("best", s, k, w); return two(x.best(s, k, w), m.best(s, k, w)); }
            case 24: { tell("valueWith", s, i, w); return two(x.valueWith(s, i, w), m.valueWith(s, i, w)); }
            case 25: { tell("needless", s); return two(x.needless(s), m.needless(s)); }
            default: return askOfPlans(kind, s, w, i);
        }
    }

    private long[] askOfPlans(int kind, int s, int w, int i) {
        switch (kind) {
            case 26, 27: {
                int v = random.nextInt(5) == 0 ? 0 : random.nextInt(2) == 0 ? what(99) : 1 + random.nextInt(4);
                int k = m.entry(s, -1, 0) > 0 && random.nextInt(3) == 0 ? m.entry(s, 0, 0) : i;
                tell("plan", s, k, v);
                return two(x.plan(s, k, v), m.plan(s, k, v));
            }
            case 28: { int k = at(8); int v = what(2); tell("entry", s, k, v); return two(x.entry(s, k, v), m.entry(s, k, v)); }
            case 29: { tell("hold", s, w); return two(x.hold(s, w), m.hold(s, w)); }
            case 30: { tell("reply", s); return two(x.reply(s), m.reply(s)); }
            case 31: { tell("meet"); return two(x.meet(), m.meet()); }
            case 32: { tell("evenHold", s, w); return two(x.evenHold(s, w), m.evenHold(s, w)); }
            case 33: { tell("evenShare", s, i, w); return two(x.evenShare(s, i, w), m.evenShare(s, i, w)); }
            case 34: { tell("both", w); return two(x.both(w), m.both(w)); }
            case 35: { int f = what(4); tell("mean", s, f, w); return two(x.mean(s, f, w), m.mean(s, f, w)); }
            case 36: {
                if (random.nextInt(3) > 0) {
                    tell("draw", s);
                    return two(x.draw(s, true), m.draw(s, true));
                }
                int v = random.nextInt();
                tell("state", v);
                return two(x.state(v), m.state(v));
            }
            case 37: { boolean b = random.nextBoolean(); tell("draw", s, b); return two(x.draw(s, b), m.draw(s, b)); }
            case 38: { int v = random.nextInt(5) == 0 ? what(201) : 1 + random.nextInt(200); tell("match", v); return two(x.match(v), m.match(v)); }
            case 39: { tell("note", s, i); return two(x.note(s, i), m.note(s, i)); }
            case 40: { tell("against", s, w); return two(x.against(s, w), m.against(s, w)); }
            case 41: { tell("apart", s, w); return two(x.apart(s, w), m.apart(s, w)); }
            default: { int v = random.nextInt(30) - 2; tell("count", v); return two(x.count(v), m.count(v)); }
        }
    }

    // ---- texts

    private long[] text() {
        if (random.nextInt(12) == 0) {
            int n = random.nextInt(5) == 0 ? random.nextInt() : m.count(12) + random.nextInt(30) - 25;
            tell("text", n);
            return two(x.text(n), m.text(n));
        }
        String text = lines();
        if (random.nextInt(3) == 0) {
            text = spoiled(text);
        }
        byte[] bytes = text.getBytes(java.nio.charset.StandardCharsets.ISO_8859_1);
        int feeds = (bytes.length + 19) / 20;
        if (made + feeds > CALLS) {
            tell("count", 12);
            return two(x.count(12), m.count(12));
        }
        made += feeds;
        tell("text", text.replace("\n", "\\n"));
        long[] five = new long[2];
        for (int k = 0; k < bytes.length; k += 20) {
            int[] v = new int[5];
            for (int j = 0; j < 5; j++) {
                v[j] = Due.four(bytes, k + 4 * j);
            }
            five = two(x.feed(v[0], v[1], v[2], v[3], v[4]), m.feed(v));
            if (five[0] != five[1]) {
                return five;
            }
        }
        if (random.nextInt(25) == 0) {
            return five;
        }
        return two(x.text(text.length()), m.text(text.length()));
    }

    private String spoiled(String text) {
        StringBuilder b = new StringBuilder(text);
        int times = 1 + random.nextInt(2);
        String signs = "0123456789 \n;abefikopstuw\t-A\u00e9\u0000{/:`";
        for (int k = 0; k < times && b.length() > 0; k++) {
            int at = random.nextInt(b.length());
            switch (random.nextInt(4)) {
                case 0 -> b.deleteCharAt(at);
                case 1 -> b.insert(at, signs.charAt(random.nextInt(signs.length())));
                case 2 -> b.setCharAt(at, signs.charAt(random.nextInt(signs.length())));
                default -> b.setLength(at);
            }
        }
        return b.toString();
    }

    private String gap() {
        int r = random.nextInt(12);
        return r == 0 ? "\n" : r == 1 ? "  " : r == 2 ? " \n " : " ";
    }

    private String lines() {
        StringBuilder b = new StringBuilder();
        int many = 1 + random.nextInt(6);
        List<Integer> worths = new ArrayList<>(m.worths);
        int[] forces = m.forces.clone();
        for (int k = 0; k < many; k++) {
            b.append(k == 0 ? "" : random.nextInt(3) == 0 ? ";" : random.nextInt(2) == 0 ? "; " : " ;\n");
            b.append(line(k, worths, forces));
        }
        return b.toString();
    }

    private String line(int k, List<Integer> worths, int[] forces) {
        int kind = k == 0 ? random.nextInt(5) : random.nextInt(12);
        if (kind == 0) {
            worths.clear();
            int fields = 1 + random.nextInt(random.nextInt(12) == 0 ? 5 : 4);
            int sum = 0;
            StringBuilder b = new StringBuilder("fields");
            for (int f = 0; f < fields; f++) {
                int worth = random.nextInt(40) == 0 ? random.nextInt(12) : 1 + random.nextInt(Math.max(1, Math.min(3, 8 - sum - fields + f + 1)));
                worths.add(worth);
                sum += worth;
                b.append(gap()).append(random.nextInt(20) == 0 ? "0" : "").append(worth);
            }
            return b.toString();
        }
        if (kind == 1) {
            int most = random.nextInt(30) == 0 ? 12 : 8;
            forces[0] = random.nextInt(most);
            forces[1] = random.nextInt(most);
            return "forces" + gap() + forces[0] + gap() + forces[1];
        }
        if (kind == 2) {
            return "ties" + gap() + random.nextInt(random.nextInt(30) == 0 ? 5 : 3);
        }
        return listLine(kind % 2 == 0, worths.size(), forces);
    }

    private String listLine(boolean book, int fields, int[] forces) {
        int side = random.nextInt(40) == 0 ? 2 : random.nextInt(2);
        StringBuilder b = new StringBuilder(book ? "book" : "plan");
        b.append(gap()).append(side);
        int many = random.nextInt(8) == 0 ? 10 : 1 + random.nextInt(book ? 6 : 8);
        List<List<Integer>> all = new ArrayList<>(Model.splitsOf(Math.min(7, forces[side & 1]), Math.min(4, fields)));
        if (random.nextInt(4) > 0) {
            java.util.Collections.shuffle(all, random);
            many = Math.min(many, all.size());
        }
        for (int k = 0; k < many; k++) {
            List<Integer> digits = random.nextInt(60) == 0 ? all.get(random.nextInt(all.size())) : all.get(k % all.size());
            b.append(gap());
            digits.forEach(b::append);
            if (!book) {
                b.append(random.nextInt(10) == 0 ? "weight" : gap() + "weight").append(gap());
                b.append(random.nextInt(60) == 0 ? random.nextInt(120) : 1 + random.nextInt(random.nextBoolean() ? 3 : 99));
            }
        }
        return b.toString();
    }
}
