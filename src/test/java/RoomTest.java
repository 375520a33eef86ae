import java.lang.management.ManagementFactory;
import java.util.NoSuchElementException;
import java.util.Random;

/** Calls make nothing, objects little; and whatever the arguments are, split alone throws. */
public final class RoomTest {
    private static final int[] EDGES = {0, 1, 2, 3, 4, 5, 6, 7, 8, 20, 40, 99, 100, 119, 120, 200, 300, -1, -2, -3,
        Integer.MIN_VALUE, Integer.MIN_VALUE + 1, Integer.MAX_VALUE, Integer.MAX_VALUE - 1};

    private static long sink = 0;

    private RoomTest() {
    }

    public static void main(String[] args) {
        wildCalls();
        room();
        Due.end("RoomTest");
    }

    private static void wildCalls() {
        Random random = new Random(41);
        for (int run = 0; run < 300; run++) {
            SecretForces x = new SecretForces();
            String call = "";
            try {
                for (int k = 0; k < 700; k++) {
                    int kind = random.nextInt(40);
                    int[] v = new int[5];
                    for (int j = 0; j < 5; j++) {
                        v[j] = random.nextInt(3) > 0 ? random.nextInt(3) : EDGES[random.nextInt(EDGES.length)];
                    }
                    call = kind + ": " + v[0] + " " + v[1] + " " + v[2];
                    sink += asked(x, kind, v);
                }
                Due.holds("run " + run, true);
            } catch (RuntimeException e) {
                Due.same("run " + run + ", call " + call, e.toString(), "nothing thrown");
            }
        }
    }

    private static long asked(SecretForces x, int kind, int[] v) {
        switch (kind) {
            case 0: return x.feed(v[0], v[1], v[2], v[3], v[4]);
            case 1: return x.text(v[0]);
            case 2: return x.field(v[0]);
            case 3: return x.lose();
            case 4: return x.forces(v[0], v[1]);
            case 5: return x.ties(v[0]);
            case 6: return x.splits(v[0]);
            case 7: return split(x, v[0], v[1]);
            case 8: return x.number(v[0], v[1]);
            case 9: return x.gain(v[0], v[1]);
            case 10: return x.shapes(v[0]);
            case 11: return x.shape(v[0], v[1], v[2]);
            case 12: return x.ways(v[0], v[1], v[2]);
            case 13: return x.worse(v[0], v[1], v[2] > 0);
            case 14: return x.left(v[0], v[1]);
            case 15: return x.rounds();
            case 16: return x.safe(v[0], v[1]);
            case 17: return x.add(v[0], v[1]);
            case 18: return x.shut(v[0]);
            case 19: return x.book(v[0], v[1]);
            case 20: return x.value(v[0]);
            case 21: return x.best(v[0], v[1], v[2]);
            case 22: return x.valueWith(v[0], v[1], v[2]);
            case 23: return x.needless(v[0]);
            case 24: return x.plan(v[0], v[1], v[2]);
            case 25: return x.entry(v[0], v[1], v[2]);
            case 26: return x.hold(v[0], v[1]);
            case 27: return x.reply(v[0]);
            case 28: return x.meet();
            case 29: return x.evenHold(v[0], v[1]);
            case 30: return x.evenShare(v[0], v[1], v[2]);
            case 31: return x.both(v[0]);
            case 32: return x.mean(v[0], v[1], v[2]);
            case 33: return x.state(v[0]);
            case 34: return x.draw(v[0], v[1] > 0);
            case 35: return x.match(v[0]);
            case 36: return x.note(v[0], v[1]);
            case 37: return x.against(v[0], v[1]);
            case 38: return x.apart(v[0], v[1]);
            default: return x.count(v[0]);
        }
    }

    private static long split(SecretForces x, int side, int i) {
        try {
            return x.split(side, i);
        } catch (NoSuchElementException e) {
            return -1;
        }
    }

    private static long allocated() {
        java.lang.management.ThreadMXBean bean = ManagementFactory.getThreadMXBean();
        return ((com.sun.management.ThreadMXBean) bean).getThreadAllocatedBytes(Thread.currentThread().getId());
    }

    private static void room() {
        SecretForces x = new SecretForces();
        Due.tell(x, "fields 1 1 1 1; forces 7 7; book 0 7000 0700; book 1 0070 0007;"
            + " plan 0 1222 weight 1 7000 weight 2; plan 1 4300 weight 3 0007 weight 2");
        byte[] text = "ties 0; plan 0 7000 weight 3".getBytes(java.nio.charset.StandardCharsets.ISO_8859_1);
        int[] v = new int[5];
        long before = allocated();
        // what the meter itself makes
        long meter = allocated() - before;
        before = allocated();
        for (int round = 0; round < 20; round++) {
            for (int kind = 0; kind < 40; kind++) {
                v[1] = kind == 24 ? 2 : 0;
                v[2] = kind == 24 ? 1 : 0;
                // these empty what the others ask about, and split throws for none such
                if (kind != 2 && kind != 3 && kind != 4 && kind != 18) {
                    sink += asked(x, kind, v);
                }
            }
            sink += x.text(0);
            sink += x.feed(Due.four(text, 0), Due.four(text, 4), Due.four(text, 8), Due.four(text, 12), Due.four(text, 16));
            sink += x.feed(Due.four(text, 20), Due.four(text, 24), 0, 0, 0);
            sink += x.text(28);
        }
        long made = allocated() - before - meter;
        Due.holds("calls make nothing, bytes: " + made, made < 2000);
        before = allocated();
        sink += new SecretForces().count(0);
        made = allocated() - before - meter;
        Due.holds("an object has not much, bytes: " + made, made > 0 && made < 12000);
    }
}
