import java.util.function.Supplier;

/** What tests of edges share: objects that hold something of all kinds, and what stands after a call. */
final class Edge {
    static final int LEAST = Integer.MIN_VALUE;
    static final int MOST = Integer.MAX_VALUE;
    /** Neither SIDES nor 0 for above, 1 for below. */
    static final int[] NOT_0_1 = {-1, 2, LEAST, MOST};
    static final int[] NOT_0_1_2 = {-1, 3, LEAST, MOST};

    private Edge() {
    }

    interface Call {
        long on(SecretForces x);
    }

    /** FIELDS 1 2, FORCES 3 2, TIES 1: four SPLITS of SIDE 0, three of SIDE 1, and something of all kinds. */
    static SecretForces laden() {
        return laden("fields 1 2; forces 3 2; ties 1");
    }

    static SecretForces laden(String setting) {
        return laden(setting, "ties 2");
    }

    static SecretForces laden(String setting, String onTape) {
        SecretForces x = told(setting);
        for (int side = 0; side < 2; side++) {
            int last = x.splits(side) - 1;
            x.add(side, last);
            x.add(side, 0);
            x.plan(side, 0, 2);
            x.plan(side, last, 3);
            x.note(side, 0);
            x.note(side, last);
            x.note(side, last);
            x.draw(side, true);
        }
        x.state(-12345);
        Due.put(x, onTape);
        return x;
    }

    static SecretForces told(String text) {
        SecretForces x = new SecretForces();
        Due.holds("'" + text + "' is a text", Due.tell(x, text) > 0);
        return x;
    }

    /** All that can be asked of what was told: FIELDS, BOOKS, PLANS with turns, NOTES, STATE, THE TAPE. */
    static String picture(SecretForces x) {
        StringBuilder b = new StringBuilder();
        for (int what = 0; what <= 23; what = what == 12 ? 20 : what + 1) {
            b.append(x.count(what)).append(' ');
        }
        for (int side = 0; side < 2; side++) {
            b.append("| book ");
            for (int k = 0; k < x.count(5 + side); k++) {
                b.append(x.book(side, k)).append(' ');
            }
            b.append("| plan ");
            for (int k = 0; k < x.count(7 + side); k++) {
                b.append(x.entry(side, k, 0)).append('*').append(x.entry(side, k, 1));
                b.append('/').append(x.entry(side, k, 2)).append(' ');
            }
            b.append("| notes ").append(x.against(side, 0)).append(' ').append(x.against(side, 1));
            b.append(' ').append(x.apart(side, 0)).append(' ').append(x.apart(side, 1)).append(' ');
        }
        return b.toString();
    }

    /** How it goes on: this changes the object. */
    static String sequel(SecretForces x) {
        StringBuilder b = new StringBuilder(picture(x));
        for (int side = 0; side < 2; side++) {
            b.append("| ").append(x.draw(side, true)).append(' ').append(x.draw(side, false));
            b.append(' ').append(x.left(side, -1)).append(' ').append(x.hold(side, 0)).append(' ');
        }
        b.append(x.rounds()).append(' ').append(x.value(0)).append(' ').append(x.match(3)).append(' ');
        b.append(x.text(x.count(12))).append("| ").append(picture(x));
        return b.toString();
    }

    static void refused(String call, long want, Call made) {
        refused(call, want, Edge::laden, made);
    }

    /** The call answers so, and then all goes on as with a twin on which it was not made. */
    static void refused(String call, long want, Supplier<SecretForces> from, Call made) {
        SecretForces x = from.get();
        Due.is(call, made.on(x), want);
        Due.same("all behind " + call, sequel(x), sequel(from.get()));
    }

    /** One new NOTE is all that was seen: nothing of before. It stays. */
    static void nothingSeen(String behind, SecretForces x) {
        for (int side = 0; side < 2; side++) {
            Due.is("the first note behind " + behind, x.note(side, 0), 1);
            Due.is("what it gains behind " + behind, x.against(1 - side, 1), mostAgainstFirst(x, 1 - side));
        }
    }

    private static int mostAgainstFirst(SecretForces x, int side) {
        int most = LEAST;
        for (int i = 0; i < x.splits(side); i++) {
            most = Math.max(most, side == 0 ? x.gain(i, 0) : -x.gain(0, i));
        }
        return most;
    }

    /** One new ENTRY is all of a PLAN: it has all WEIGHTS, and no turns. It goes again. */
    static void nothingPlanned(String behind, SecretForces x) {
        for (int side = 0; side < 2; side++) {
            Due.is("the first entry behind " + behind, x.plan(side, 0, 7), 1);
            fraction("its share behind " + behind, x.evenShare(side, 0, 0), x.evenShare(side, 0, 1), 1, x.shape(side, 0, 0));
            Due.is("its turns behind " + behind, x.entry(side, 0, 2), 0);
            Due.is("it goes behind " + behind, x.plan(side, 0, 0), 0);
        }
    }

    static void fraction(String call, int above, int below, int wantAbove, int wantBelow) {
        Due.same(call, above + "/" + below, wantAbove + "/" + wantBelow);
    }
}
