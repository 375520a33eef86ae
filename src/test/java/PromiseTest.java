import java.util.NoSuchElementException;

/** Each promise by itself; all answers here were worked out by hand. Promise 3 stands in TextTest. */
public final class PromiseTest {
    private static final int[] OTHERS = {-1, 2, 7, -8, Integer.MIN_VALUE, Integer.MAX_VALUE};

    private PromiseTest() {
    }

    public static void main(String[] args) {
        newObject();
        feed();
        field();
        lose();
        forces();
        ties();
        splitsAndNumbers();
        gain();
        shapes();
        ways();
        worse();
        leftAndRounds();
        safe();
        addShutBook();
        value();
        best();
        valueWith();
        needless();
        planAndEntry();
        holdReplyMeet();
        even();
        both();
        mean();
        state();
        drawByChance();
        drawByTurns();
        match();
        note();
        against();
        apart();
        count();
        Due.end("PromiseTest");
    }

    /**
     * Fields 1 1, forces 2 and 1, ties to nobody. Side 0 has 02, 11, 20, side 1 has 01, 10;
     * side 0 gains 1 0, 1 1, 0 1.
     */
    private static SecretForces small() {
        SecretForces x = new SecretForces();
        x.lose();
        x.forces(0, 2);
        x.forces(1, 1);
        return x;
    }

    /** All of it: a book, a plan and a note of each side. */
    private static SecretForces full() {
        SecretForces x = small();
        for (int side = 0; side < 2; side++) {
            x.add(side, 0);
            x.plan(side, 0, 1);
            x.note(side, 0);
        }
        return x;
    }

    private static void isBare(String call, SecretForces x, int each) {
        for (int what = 5; what <= 10; what++) {
            Due.is("count(" + what + ") behind " + call, x.count(what), each);
        }
    }

    private static void newObject() {
        SecretForces x = new SecretForces();
        int[] want = {3, 5, 4, 0, 3, 0, 0, 0, 0, 0, 0, 0, 0};
        for (int what = 0; what < want.length; what++) {
            Due.is("new: count(" + what + ")", x.count(what), want[what]);
        }
        Due.is("new: worths", x.count(20) * 100 + x.count(21) * 10 + x.count(22), 111);
        Due.is("none is", SecretForces.NONE, -1);
    }

    private static void feed() {
        SecretForces x = new SecretForces();
        for (int k = 1; k <= 15; k++) {
            Due.is("feed " + k, x.feed(0, 0, 0, 0, 0), 20 * k);
        }
        Due.is("feed above 300", x.feed(0, 0, 0, 0, 0), -1);
        Due.is("bytes stay", x.count(12), 300);
        Due.is("all 300 are read", x.text(300), -3);
        // "ties" " 2  ": the highest byte comes first, the first number before the second one
        Due.is("feed a text", x.feed(0x74696573, 0x20322020, 0x20202020, 0x20202020, 0x20202020), 20);
        Due.is("text", x.text(20), 1);
        Due.is("ties", x.count(3), 2);
        Due.is("the tape is empty", x.count(12), 0);
    }

    private static void field() {
        SecretForces x = new SecretForces();
        for (int worth : new int[] {0, -1, 6, 9, Integer.MAX_VALUE, Integer.MIN_VALUE}) {
            Due.is("field " + worth, x.field(worth), -1);
        }
        Due.is("field 5: 8 together", x.field(5), 4);
        Due.is("its worth", x.count(23), 5);
        Due.is("all worths", x.count(4), 8);
        x.lose();
        Due.is("field 1", x.field(1), 4);
        Due.is("a fifth one", x.field(1), -1);
        SecretForces y = full();
        y.field(9);
        isBare("field refused", y, 1);
        y.field(6);
        isBare("field", y, 0);
        SecretForces one = small();
        one.lose();
        Due.is("above 8 together", one.field(8), -1);
        Due.is("just 8", one.field(7), 2);
    }

    private static void lose() {
        SecretForces x = full();
        Due.is("lose", x.lose(), 1);
        isBare("lose", x, 0);
        Due.is("the last one", x.lose(), -1);
        Due.is("K", x.count(0), 1);
        Due.is("no worth there", x.count(21), 0);
        Due.is("one split", x.splits(0), 1);
        x.add(0, 0);
        x.lose();
        Due.is("refused: the book stays", x.count(5), 1);
    }

    private static void forces() {
        SecretForces x = full();
        Due.is("forces", x.forces(1, 7), 1);
        isBare("forces", x, 0);
        Due.is("again", x.forces(1, 0), 7);
        Due.is("of the other one", x.forces(0, 7), 2);
        Due.is("count", x.count(1) * 10 + x.count(2), 70);
        x.add(0, 0);
        for (int wrong : new int[] {-1, 8, Integer.MIN_VALUE, Integer.MAX_VALUE}) {
            Due.is("forces of many " + wrong, x.forces(0, wrong), -1);
        }
        for (int side : OTHERS) {
            Due.is("forces of side " + side, x.forces(side, 3), -1);
        }
        Due.is("refused: the book stays", x.count(5), 1);
        x.forces(0, 7);
        Due.is("as many as before: the book goes all the same", x.count(5), 0);
    }

    private static void ties() {
        SecretForces x = full();
        x.draw(0, true);
        Due.is("ties 2", x.ties(2), 0);
        Due.is("ties 1", x.ties(1), 2);
        for (int rule : new int[] {-1, 3, Integer.MAX_VALUE, Integer.MIN_VALUE}) {
            Due.is("ties " + rule, x.ties(rule), -1);
        }
        Due.is("ties stay", x.count(3), 1);
        isBare("ties", x, 1);
        Due.is("turns go on", x.entry(0, 0, 2), 1);
    }

    private static boolean splitThrows(SecretForces x, int side, int i) {
        try {
            x.split(side, i);
            return false;
        } catch (NoSuchElementException e) {
            return true;
        }
    }

    private static void splitsAndNumbers() {
        SecretForces x = new SecretForces();
        Due.is("splits 0", x.splits(0), 21);
        Due.is("splits 1", x.splits(1), 15);
        int[] want = {4, 11, 18, 25, 32, 67, 74, 81, 88, 130, 137, 144, 193, 200, 256};
        for (int i = 0; i < want.length; i++) {
            Due.is("split " + i, x.split(1, i), want[i]);
            Due.is("number " + want[i], x.number(1, want[i]), i);
        }
        Due.holds("split behind the last one", splitThrows(x, 1, 15) && splitThrows(x, 0, 21));
        Due.holds("split before the first one", splitThrows(x, 1, -1) && splitThrows(x, 0, Integer.MIN_VALUE));
        for (int side : OTHERS) {
            Due.is("splits of side " + side, x.splits(side), -1);
            Due.holds("split of side " + side, splitThrows(x, side, 0));
            Due.is("number of side " + side, x.number(side, 4), -1);
        }
        for (int eights : new int[] {5, 0, -4, 257, 4 + 512, Integer.MAX_VALUE, Integer.MIN_VALUE, 2048}) {
            Due.is("number of " + eights, x.number(1, eights), -1);
        }
        x.field(1);
        x.forces(0, 7);
        Due.is("most of all", x.splits(0), 120);
        Due.is("the last one", x.split(0, 119), 7 * 512);
        x.forces(0, 0);
        Due.is("no forces", x.splits(0), 1);
        Due.is("no forces: all 0", x.split(0, 0), 0);
    }

    private static void gain() {
        SecretForces x = small();
        int[][][] want = {{{1, 0}, {1, 1}, {0, 1}}, {{2, 0}, {2, 2}, {0, 2}}, {{0, 0}, {0, 0}, {0, 0}}};
        for (int rule = 0; rule < 3; rule++) {
            x.ties(rule);
            for (int i = 0; i < 3; i++) {
                for (int j = 0; j < 2; j++) {
                    Due.is("gain by ties " + rule + " of " + i + ", " + j, x.gain(i, j), want[rule][i][j]);
                }
            }
        }
        Due.is("gain of none", x.gain(3, 0), -100);
        Due.is("gain against none", x.gain(0, 2), -100);
        Due.is("gain of -1", x.gain(-1, 0), -100);
        Due.is("gain against -1", x.gain(0, -1), -100);
        x.lose();
        x.field(7);
        x.ties(0);
        Due.is("worths count", x.gain(0, 1), 6);
        Due.is("worths below 0", x.gain(2, 0), -6);
    }

    private static void shapes() {
        SecretForces x = new SecretForces();
        // worths 1 2 1, two of forces: 002 011 020 101 110 200; the first and the last field are alike
        Due.is("text", Due.tell(x, "fields 1 2 1; forces 2 0"), 2);
        Due.is("shapes", x.shapes(0), 4);
        Due.is("shapes of nothing", x.shapes(1), 1);
        int[][] want = {{2, 0, 1}, {2, 1, 2}, {1, 2, 3}, {1, 3, 4}, {2, 1, 4}, {2, 0, 4}};
        for (int i = 0; i < want.length; i++) {
            for (int what = 0; what < 3; what++) {
                Due.is("shape " + i + ", " + what, x.shape(0, i, what), want[i][what]);
            }
        }
        Due.is("shape of none", x.shape(0, 6, 0), -1);
        Due.is("shape of -1", x.shape(0, -1, 0), -1);
        Due.is("shape, what 3", x.shape(0, 0, 3), -1);
        Due.is("shape, what -1", x.shape(0, 0, -1), -1);
        for (int side : OTHERS) {
            Due.is("shapes of side " + side, x.shapes(side), -1);
            Due.is("shape of side " + side, x.shape(side, 0, 0), -1);
        }
        Due.tell(x, "fields 1 1 1 1; forces 6 6");
        Due.is("0123 in all orders", x.shape(0, x.number(0, 0123), 0), 24);
        Due.is("3210 is of it", x.shape(0, x.number(0, 03210), 1), x.number(0, 0123));
        Due.tell(x, "fields 1 2 1 2; forces 6 6");
        Due.is("two pairs", x.shape(0, x.number(0, 03210), 0), 4);
        Due.is("the first of them", x.shape(0, x.number(0, 03210), 1), x.number(0, 01032));
    }

    private static void ways() {
        SecretForces x = new SecretForces();
        Due.is("ways 4 3 0", x.ways(4, 3, 0), 15);
        Due.is("ways 4 3 1", x.ways(4, 3, 1), 3);
        Due.is("ways 3 3 1", x.ways(3, 3, 1), 1);
        Due.is("ways 2 3 1", x.ways(2, 3, 1), 0);
        Due.is("ways 20 8 0", x.ways(20, 8, 0), 888030);
        Due.is("ways 20 8 3", x.ways(20, 8, 3), 0);
        Due.is("ways 20 6 3", x.ways(20, 6, 3), 21);
        Due.is("ways 0 8 0", x.ways(0, 8, 0), 1);
        Due.is("ways 20 1 3", x.ways(20, 1, 3), 1);
        Due.is("ways 2 1 3", x.ways(2, 1, 3), 0);
        int[][] wrong = {{-1, 1, 0}, {21, 1, 0}, {1, 0, 0}, {1, 9, 0}, {1, 1, -1}, {1, 1, 4},
            {Integer.MIN_VALUE, 1, 0}, {1, Integer.MAX_VALUE, 0}, {1, 1, Integer.MAX_VALUE}};
        for (int[] w : wrong) {
            Due.is("ways " + w[0] + " " + w[1] + " " + w[2], x.ways(w[0], w[1], w[2]), -1);
        }
    }

    private static void worse() {
        SecretForces x = small();
        int[] want = {1, -2, 1};
        for (int i = 0; i < 3; i++) {
            Due.is("worse 0 " + i, x.worse(0, i, false), want[i]);
            Due.is("beaten 0 " + i, x.worse(0, i, true), -2);
        }
        Due.is("worse 1 0", x.worse(1, 0, false), -2);
        x.ties(2);
        Due.is("all alike: none worse", x.worse(0, 0, false), -2);
        x.lose();
        x.field(7);
        x.ties(0);
        x.forces(0, 1);
        // worths 1 7: 01 gains 0 and 6, 10 gains -6 and 0
        Due.is("beaten", x.worse(0, 1, true), 0);
        Due.is("beaten is worse", x.worse(0, 1, false), 0);
        Due.is("beaten, side 1", x.worse(1, 1, true), 0);
        Due.is("not beaten", x.worse(1, 0, true), -2);
        for (int wrong : new int[] {-1, 2, Integer.MAX_VALUE}) {
            Due.is("worse of " + wrong, x.worse(0, wrong, true), -1);
            Due.is("worse of side " + wrong, x.worse(wrong, 0, false), -1);
        }
    }

    private static void leftAndRounds() {
        SecretForces x = small();
        Due.is("all are left", x.left(0, -1) * 10 + x.left(1, -1), 32);
        Due.is("no rounds", x.rounds(), 0);
        Due.is("text", Due.tell(x, "fields 2 1; forces 1 1"), 2);
        Due.is("one of each", x.left(0, -1) * 10 + x.left(1, -1), 11);
        Due.is("10", x.left(0, 0), 1);
        Due.is("10 too", x.left(1, 0), 1);
        Due.is("both at once", x.rounds(), 1);
        Due.is("no more", x.left(0, 1), -1);
        Due.is("below", x.left(0, -2), -1);
        for (int side : OTHERS) {
            Due.is("left of side " + side, x.left(side, -1), -1);
        }
        x.ties(1);
        // 01: 3 -1, 10: 1 3 for side 0
        Due.is("ties change who is left", x.left(0, -1), 2);
        // the third field is worth more than both others: whoever leaves it out loses it
        Due.is("text", Due.tell(x, "fields 1 2 4; forces 4 4; ties 0"), 3);
        Due.is("again and again", x.rounds(), 10);
        Due.is("004 is left", x.left(0, 0), 0);
        Due.is("alone", x.left(0, -1) * 10 + x.left(1, -1), 11);
        // side 1 has nothing and loses anything; of side 0 those go that leave fields out
        Due.is("text", Due.tell(x, "fields 1 1; forces 2 0"), 2);
        Due.is("of one side alone: one round", x.rounds(), 1);
        Due.is("11", x.left(0, 0), 1);
    }

    private static void safe() {
        SecretForces x = small();
        int[] want = {0, 1, 0};
        for (int i = 0; i < 3; i++) {
            Due.is("safe 0 " + i, x.safe(0, i), want[i]);
        }
        Due.is("the greatest", x.safe(0, -1), 1);
        Due.is("safe 1 0", x.safe(1, 0), -1);
        Due.is("the greatest of side 1", x.safe(1, -1), -1);
        Due.is("safe of none", x.safe(0, 3), -100);
        Due.is("safe of -2", x.safe(0, -2), -100);
        for (int side : OTHERS) {
            Due.is("safe of side " + side, x.safe(side, 0), -100);
            Due.is("safest of side " + side, x.safe(side, -1), -100);
        }
        SecretForces y = new SecretForces();
        Due.tell(y, "fields 8; forces 0 7");
        Due.is("all is lost", y.safe(0, -1), -8);
        Due.is("all is gained", y.safe(1, 0), 8);
    }

    private static void addShutBook() {
        SecretForces x = new SecretForces();
        for (int i = 0; i < 6; i++) {
            Due.is("add", x.add(0, 20 - i), i + 1);
        }
        Due.is("a seventh", x.add(0, 0), -1);
        Due.is("the book of side 1", x.book(1, -1), 0);
        Due.is("add 1", x.add(1, 3), 1);
        Due.is("it is there", x.add(1, 3), -1);
        Due.is("none such", x.add(1, 15), -1);
        Due.is("below", x.add(1, -1), -1);
        Due.is("how many", x.book(0, -1), 6);
        for (int k = 0; k < 6; k++) {
            Due.is("book 0 " + k, x.book(0, k), 20 - k);
        }
        Due.is("book behind", x.book(0, 6), -1);
        Due.is("book below", x.book(0, -2), -1);
        for (int side : OTHERS) {
            Due.is("add to side " + side, x.add(side, 0), -1);
            Due.is("shut of side " + side, x.shut(side), -1);
            Due.is("book of side " + side, x.book(side, -1), -1);
        }
        Due.is("shut", x.shut(0), 6);
        Due.is("shut again", x.shut(0), 0);
        Due.is("the other one stays", x.book(1, 0), 3);
        Due.is("book of nothing", x.book(0, 0), -1);
    }

    private static SecretForces withBooks(int[] zero, int[] one) {
        SecretForces x = small();
        for (int i : zero) {
            x.add(0, i);
        }
        for (int i : one) {
            x.add(1, i);
        }
        return x;
    }

    private static void isFraction(String call, int above, int below, int wantAbove, int wantBelow) {
        Due.is(call + ", above", above, wantAbove);
        Due.is(call + ", below", below, wantBelow);
    }

    private static void value() {
        SecretForces x = withBooks(new int[] {0, 2}, new int[] {0, 1});
        isFraction("value", x.value(0), x.value(1), 1, 2);
        x.add(0, 1);
        isFraction("value with 11", x.value(0), x.value(1), 1, 1);
        x.shut(0);
        Due.is("a book is empty", x.value(0), -100);
        Due.is("what 2", withBooks(new int[] {0}, new int[] {0}).value(2), -100);
        Due.is("what -1", withBooks(new int[] {0}, new int[] {0}).value(-1), -100);
        x.add(0, 2);
        isFraction("value of nought", x.value(0), x.value(1), 0, 1);
        x.shut(1);
        Due.is("the other book is empty", x.value(1), -100);
        SecretForces y = new SecretForces();
        Due.is("text", Due.tell(y, "fields 1 2 4; forces 3 3"), 2);
        y.add(0, y.number(0, 0102));
        y.add(0, y.number(0, 0021));
        y.add(1, y.number(1, 0003));
        y.add(1, y.number(1, 0120));
        int a = y.gain(y.book(0, 0), y.book(1, 0));
        int b = y.gain(y.book(0, 0), y.book(1, 1));
        int c = y.gain(y.book(0, 1), y.book(1, 0));
        int d = y.gain(y.book(0, 1), y.book(1, 1));
        // 102 against 003: 1 - 4, against 120: -2 + 4; 021 against 003: 2 - 4, against 120: -1 + 4
        Due.same("gains", a + " " + b + " " + c + " " + d, "-3 2 -2 3");
        isFraction("value below 0", y.value(0), y.value(1), -2, 1);
    }

    private static void best() {
        SecretForces x = withBooks(new int[] {0, 2}, new int[] {0, 1});
        for (int side = 0; side < 2; side++) {
            for (int k = 0; k < 2; k++) {
                isFraction("best", x.best(side, k, 0), x.best(side, k, 1), 1, 2);
            }
        }
        x.add(0, 1);
        isFraction("best of 02", x.best(0, 0, 0), x.best(0, 0, 1), 0, 1);
        isFraction("best of 11", x.best(0, 2, 0), x.best(0, 2, 1), 1, 1);
        // all that side 1 does is as good: the first of its book has all
        isFraction("best of 01", x.best(1, 0, 0), x.best(1, 0, 1), 1, 1);
        isFraction("best of 10", x.best(1, 1, 0), x.best(1, 1, 1), 0, 1);
        x.ties(2);
        for (int k = 0; k < 3; k++) {
            isFraction("all gains are 0", x.best(0, k, 0), x.best(0, k, 1), k == 0 ? 1 : 0, 1);
        }
        // by both 02 and 20 side 0 is held at 1 of 2, so the first one has no more than a half
        SecretForces y = withBooks(new int[] {0, 2}, new int[] {1, 0});
        isFraction("best by order", y.best(1, 0, 0), y.best(1, 0, 1), 1, 2);
        Due.is("best behind", x.best(0, 3, 0), -1);
        Due.is("best below", x.best(0, -1, 0), -1);
        Due.is("best, what 2", x.best(0, 0, 2), -1);
        Due.is("best, what -1", x.best(0, 0, -1), -1);
        for (int side : OTHERS) {
            Due.is("best of side " + side, x.best(side, 0, 0), -1);
        }
        x.shut(1);
        Due.is("a book is empty", x.best(0, 0, 0), -1);
    }

    private static void valueWith() {
        SecretForces x = withBooks(new int[] {0, 2}, new int[] {0});
        isFraction("value", x.value(0), x.value(1), 1, 1);
        isFraction("with 10", x.valueWith(1, 1, 0), x.valueWith(1, 1, 1), 1, 2);
        Due.is("the book stays", x.book(1, -1), 1);
        x.add(1, 1);
        isFraction("with 11", x.valueWith(0, 1, 0), x.valueWith(0, 1, 1), 1, 1);
        isFraction("value stays", x.value(0), x.value(1), 1, 2);
        Due.is("it is there", x.valueWith(0, 2, 0), -100);
        Due.is("none such", x.valueWith(0, 3, 0), -100);
        Due.is("below", x.valueWith(0, -1, 0), -100);
        Due.is("what 2", x.valueWith(0, 1, 2), -100);
        Due.is("what -1", x.valueWith(0, 1, -1), -100);
        for (int side : OTHERS) {
            Due.is("of side " + side, x.valueWith(side, 1, 0), -100);
        }
        x.shut(1);
        Due.is("a book is empty", x.valueWith(0, 1, 0), -100);
        Due.is("a book is empty, though it would have one", x.valueWith(1, 1, 0), -100);
        SecretForces y = new SecretForces();
        for (int i = 0; i < 6; i++) {
            y.add(0, i);
        }
        y.add(1, 0);
        Due.is("six are", y.valueWith(0, 6, 0), -100);
        Due.holds("the other one has room", y.valueWith(1, 1, 0) != -100);
    }

    private static void needless() {
        SecretForces x = withBooks(new int[] {0, 2}, new int[] {0, 1});
        Due.is("both are needed", x.needless(0), -2);
        Due.is("both of side 1", x.needless(1), -2);
        x.add(0, 1);
        Due.is("02 is needless", x.needless(0), 0);
        Due.is("01 is needless", x.needless(1), 0);
        SecretForces y = withBooks(new int[] {1, 0}, new int[] {0, 1});
        Due.is("11 is needed, 02 is not", y.needless(0), 1);
        SecretForces z = withBooks(new int[] {0}, new int[] {0});
        Due.is("the only one", z.needless(0), -2);
        for (int side : OTHERS) {
            Due.is("of side " + side, x.needless(side), -1);
        }
        z.shut(0);
        Due.is("it is empty", z.needless(0), -1);
        Due.is("the other one is empty", z.needless(1), -1);
    }

    private static void planAndEntry() {
        SecretForces x = new SecretForces();
        for (int k = 0; k < 8; k++) {
            Due.is("plan", x.plan(0, 10 - k, k + 1), k + 1);
        }
        Due.is("a ninth", x.plan(0, 0, 1), -1);
        Due.is("a weight anew of eight", x.plan(0, 9, 99), 8);
        Due.is("it has it", x.entry(0, 1, 1), 99);
        Due.is("it stands where it was", x.entry(0, 1, 0), 9);
        Due.is("above 99", x.plan(0, 9, 100), -1);
        Due.is("below 0", x.plan(0, 9, -1), -1);
        Due.is("none is there that could go", x.plan(0, 0, 0), -1);
        Due.is("it goes", x.plan(0, 9, 0), 7);
        Due.is("the next one comes there", x.entry(0, 1, 0) * 10 + x.entry(0, 1, 1), 83);
        Due.is("the last one too", x.entry(0, 6, 0) * 10 + x.entry(0, 6, 1), 38);
        Due.is("no more", x.entry(0, 7, 0), -1);
        Due.is("again it comes behind all", x.plan(0, 9, 4), 8);
        Due.is("there", x.entry(0, 7, 0) * 10 + x.entry(0, 7, 1), 94);
        Due.is("how many", x.entry(0, -1, 0), 8);
        Due.is("how many, what 1", x.entry(0, -1, 1), 8);
        Due.is("how many, what 2", x.entry(0, -1, 2), 8);
        for (int what : new int[] {-1, 3, Integer.MIN_VALUE, Integer.MAX_VALUE}) {
            Due.is("how many, what " + what, x.entry(0, -1, what), -1);
        }
        Due.is("how many of side 1", x.entry(1, -1, 2), 0);
        Due.is("none such", x.plan(1, 15, 1), -1);
        Due.is("below", x.plan(1, -1, 1), -1);
        Due.is("entry below", x.entry(0, -2, 0), -1);
        Due.is("entry, what 3", x.entry(0, 0, 3), -1);
        Due.is("entry, what -1", x.entry(0, 0, -1), -1);
        for (int side : OTHERS) {
            Due.is("plan of side " + side, x.plan(side, 0, 1), -1);
            Due.is("entry of side " + side, x.entry(side, -1, 0), -1);
        }
    }

    private static SecretForces withPlans() {
        SecretForces x = small();
        x.plan(0, 0, 1);
        x.plan(0, 2, 3);
        x.plan(1, 0, 2);
        return x;
    }

    private static void holdReplyMeet() {
        SecretForces x = withPlans();
        isFraction("hold 0", x.hold(0, 0), x.hold(0, 1), 1, 4);
        Due.is("reply 0", x.reply(0), 0);
        isFraction("hold 1", x.hold(1, 0), x.hold(1, 1), -1, 1);
        Due.is("reply 1, the first", x.reply(1), 0);
        Due.is("they do not meet", x.meet(), 0);
        x.plan(0, 0, 0);
        x.plan(0, 2, 0);
        Due.is("no entries", x.hold(0, 0), -100);
        Due.is("no entries, reply", x.reply(0), -1);
        Due.is("no entries, meet", x.meet(), -1);
        x.plan(0, 1, 5);
        isFraction("hold of 11", x.hold(0, 0), x.hold(0, 1), 1, 1);
        Due.is("they meet", x.meet(), 1);
        Due.is("hold, what 2", x.hold(0, 2), -100);
        Due.is("hold, what -1", x.hold(0, -1), -100);
        for (int side : OTHERS) {
            Due.is("hold of side " + side, x.hold(side, 0), -100);
            Due.is("reply to side " + side, x.reply(side), -1);
        }
        x.plan(1, 0, 0);
        Due.is("side 1 has none", x.meet(), -1);
    }

    private static void even() {
        SecretForces x = withPlans();
        isFraction("even hold", x.evenHold(0, 0), x.evenHold(0, 1), 1, 2);
        // 01 and 10 by halves: against 02 and 20 1 of 2, against 11 all
        isFraction("even hold 1", x.evenHold(1, 0), x.evenHold(1, 1), -1, 1);
        isFraction("even share 02", x.evenShare(0, 0, 0), x.evenShare(0, 0, 1), 1, 2);
        isFraction("even share 11", x.evenShare(0, 1, 0), x.evenShare(0, 1, 1), 0, 1);
        isFraction("even share 10", x.evenShare(1, 1, 0), x.evenShare(1, 1, 1), 1, 2);
        x.plan(0, 1, 4);
        isFraction("even share 20", x.evenShare(0, 2, 0), x.evenShare(0, 2, 1), 1, 4);
        Due.is("the plan stays", x.entry(0, 1, 1), 3);
        Due.is("none such", x.evenShare(0, 3, 0), -1);
        Due.is("below", x.evenShare(0, -1, 0), -1);
        Due.is("share, what 2", x.evenShare(0, 0, 2), -1);
        Due.is("hold, what 2", x.evenHold(0, 2), -100);
        Due.is("hold, what -1", x.evenHold(0, -1), -100);
        for (int side : OTHERS) {
            Due.is("even hold of side " + side, x.evenHold(side, 0), -100);
            Due.is("even share of side " + side, x.evenShare(side, 0, 0), -1);
        }
        x.plan(1, 0, 0);
        Due.is("no entries, hold", x.evenHold(1, 0), -100);
        Due.is("no entries, share", x.evenShare(1, 0, 0), -1);
        SecretForces y = new SecretForces();
        // fields that are not alike change nothing with one another
        Due.is("text", Due.tell(y, "fields 2 1; forces 2 1; plan 0 02 weight 1"), 3);
        isFraction("not alike", y.evenHold(0, 0), y.evenHold(0, 1), -1, 1);
        isFraction("not alike, share", y.evenShare(0, 2, 0), y.evenShare(0, 2, 1), 0, 1);
        Due.is("text", Due.tell(y, "fields 1 1 1; forces 1 0; plan 0 001 weight 5 010 weight 1"), 3);
        isFraction("thirds", y.evenShare(0, 2, 0), y.evenShare(0, 2, 1), 1, 3);
    }

    private static void both() {
        SecretForces x = withPlans();
        isFraction("both", x.both(0), x.both(1), 1, 4);
        x.plan(1, 1, 1);
        // 2 of 3: 1 of 4, 1 of 3: 3 of 4
        isFraction("both, two by two", x.both(0), x.both(1), 5, 12);
        Due.is("what 2", x.both(2), -100);
        Due.is("what -1", x.both(-1), -100);
        x.plan(1, 0, 0);
        x.plan(1, 1, 0);
        Due.is("no entries of side 1", x.both(0), -100);
        SecretForces y = small();
        y.plan(1, 0, 1);
        Due.is("no entries of side 0", y.both(0), -100);
        SecretForces z = new SecretForces();
        // ties go to side 0: 70 against 07 gains 3 - 1, 61 against 07 too, 70 against 70 3 + 1
        Due.tell(z, "fields 3 1; forces 7 7; ties 1; plan 0 70 weight 2 61 weight 1; plan 1 07 weight 1 70 weight 1");
        // 61 against 70: -3 + 1; (2 * 2 + 2 + 2 * 4 - 2) of 6
        isFraction("both, by ties", z.both(0), z.both(1), 2, 1);
    }

    private static void mean() {
        SecretForces x = withPlans();
        isFraction("mean 0 0", x.mean(0, 0, 0), x.mean(0, 0, 1), 3, 2);
        isFraction("mean 0 1", x.mean(0, 1, 0), x.mean(0, 1, 1), 1, 2);
        isFraction("mean 1 0", x.mean(1, 0, 0), x.mean(1, 0, 1), 0, 1);
        isFraction("mean 1 1", x.mean(1, 1, 0), x.mean(1, 1, 1), 1, 1);
        SecretForces y = new SecretForces();
        Due.tell(y, "fields 3 1; forces 7 7; plan 0 70 weight 2 61 weight 1; plan 1 07 weight 1");
        isFraction("mean of seven", y.mean(0, 0, 0), y.mean(0, 0, 1), 20, 3);
        isFraction("mean of seven there", y.mean(1, 1, 0), y.mean(1, 1, 1), 7, 1);
        Due.is("no such field", x.mean(0, 2, 0), -1);
        Due.is("field below", x.mean(0, -1, 0), -1);
        Due.is("what 2", x.mean(0, 0, 2), -1);
        Due.is("what -1", x.mean(0, 0, -1), -1);
        for (int side : OTHERS) {
            Due.is("mean of side " + side, x.mean(side, 0, 0), -1);
        }
        Due.is("no entries", small().mean(0, 0, 0), -1);
    }

    private static void state() {
        SecretForces x = new SecretForces();
        Due.is("state", x.state(-7), 0);
        Due.is("count", x.count(11), -7);
        x.lose();
        x.forces(0, 1);
        Due.is("it stays", x.state(Integer.MIN_VALUE), -7);
        Due.is("any int", x.state(0), Integer.MIN_VALUE);
    }

    private static void drawByChance() {
        SecretForces x = withPlans();
        // by fours 3 1 2 3 1 2 0: only 0 is the first one
        int[] want = {2, 2, 2, 2, 2, 2, 0};
        int[] states = {1013904223, 1196435762, -775096599, -1426500812, 1649599747, -1624324474, 1476291629};
        for (int k = 0; k < want.length; k++) {
            Due.is("draw " + k, x.draw(0, false), want[k]);
            Due.is("state " + k, x.count(11), states[k]);
        }
        Due.is("not by turns", x.entry(0, 1, 2), 0);
        x.plan(0, 0, 3);
        x.plan(0, 2, 1);
        x.state(0);
        // the first part is 0 to 2, the last one 3
        int[] turned = {2, 0, 0, 2, 0, 0, 0};
        for (int k = 0; k < turned.length; k++) {
            Due.is("draw by other weights " + k, x.draw(0, false), turned[k]);
        }
        for (int side : OTHERS) {
            Due.is("draw of side " + side, x.draw(side, false), -1);
        }
        Due.is("no entries", small().draw(0, false), -1);
        SecretForces y = small();
        y.draw(0, false);
        Due.is("refused: the state stays", y.count(11), 0);
    }

    private static void drawByTurns() {
        SecretForces x = withPlans();
        // 1 and 3 of 4: 3 2 (as good: the first) and so on
        int[] want = {2, 0, 2, 2, 2, 0, 2, 2};
        for (int k = 0; k < want.length; k++) {
            Due.is("turn " + k, x.draw(0, true), want[k]);
        }
        Due.is("drawn", x.entry(0, 0, 2) * 10 + x.entry(0, 1, 2), 26);
        Due.is("the state stays", x.count(11), 0);
        x.draw(1, true);
        Due.is("plan refused", x.plan(0, 1, 100), -1);
        Due.is("refused: turns go on", x.entry(0, 1, 2), 6);
        x.plan(0, 0, 1);
        Due.is("told anew: turns begin anew", x.entry(0, 0, 2) + x.entry(0, 1, 2), 0);
        Due.is("those of the other side go on", x.entry(1, 0, 2), 1);
        Due.is("the first turn again", x.draw(0, true), 2);
        x.plan(0, 1, 1);
        Due.is("an entry more: anew", x.entry(0, 1, 2), 0);
        x.draw(0, true);
        x.plan(0, 1, 0);
        Due.is("an entry less: anew", x.entry(0, 1, 2), 0);
        for (int side : OTHERS) {
            Due.is("draw of side " + side, x.draw(side, true), -1);
        }
        Due.is("no entries", small().draw(1, true), -1);
    }

    private static void match() {
        SecretForces x = withPlans();
        x.plan(1, 1, 2);
        // side 0 by fours, side 1 by fours of two and two: 3 1, 2 3, 1 2
        Due.is("match", x.match(3), 0 + 1 + 1);
        Due.is("six draws", x.count(11), -1624324474);
        Due.is("one more: 02 against 10", x.match(1), 0);
        Due.is("no turns", x.entry(0, 0, 2), 0);
        Due.is("no notes", x.count(9) + x.count(10), 0);
        for (int n : new int[] {0, -1, 201, Integer.MAX_VALUE, Integer.MIN_VALUE}) {
            Due.is("match of " + n, x.match(n), -10000);
        }
        Due.holds("200 is fine", x.match(200) >= 0);
        int before = x.count(11);
        x.plan(1, 0, 0);
        x.plan(1, 1, 0);
        Due.is("no entries of side 1", x.match(1), -10000);
        Due.is("refused: the state stays", x.count(11), before);
        SecretForces y = small();
        y.plan(1, 0, 1);
        Due.is("no entries of side 0", y.match(1), -10000);
    }

    private static void note() {
        SecretForces x = small();
        for (int k = 1; k <= 40; k++) {
            Due.is("note", x.note(0, k % 3), k);
        }
        Due.is("41", x.note(0, 0), -1);
        Due.is("of the other side", x.note(1, 1), 1);
        Due.is("none such", x.note(1, 2), -1);
        Due.is("below", x.note(1, -1), -1);
        for (int side : OTHERS) {
            Due.is("note of side " + side, x.note(side, 0), -1);
        }
        Due.is("how many", x.count(9) * 100 + x.count(10), 4001);
        Due.tell(x, "ties 0");
        Due.is("a text empties them", x.count(9) + x.count(10), 0);
    }

    private static void against() {
        SecretForces x = small();
        x.note(1, 0);
        x.note(1, 1);
        x.note(1, 1);
        Due.is("against side 1", x.against(0, 0), 1);
        Due.is("how much", x.against(0, 1), 3);
        Due.is("nothing seen of side 0", x.against(1, 0), -10000);
        x.note(0, 0);
        x.note(0, 2);
        Due.is("against side 0, the first", x.against(1, 0), 0);
        Due.is("how much is lost", x.against(1, 1), -1);
        x.note(0, 0);
        Due.is("more of 02", x.against(1, 0), 1);
        Due.is("what 2", x.against(0, 2), -10000);
        Due.is("what -1", x.against(0, -1), -10000);
        for (int side : OTHERS) {
            Due.is("against of side " + side, x.against(side, 0), -10000);
        }
    }

    private static void apart() {
        SecretForces x = withPlans();
        Due.is("no notes", x.apart(1, 0), -1);
        x.note(1, 0);
        isFraction("just so", x.apart(1, 0), x.apart(1, 1), 0, 1);
        x.note(1, 1);
        x.note(1, 1);
        isFraction("one of three is seen of the only one", x.apart(1, 0), x.apart(1, 1), 2, 3);
        x.note(0, 1);
        isFraction("seen, but not of the plan", x.apart(0, 0), x.apart(0, 1), 1, 1);
        x.note(0, 2);
        x.note(0, 2);
        // 0 1 2 of 3 against 1 0 3 of 4
        isFraction("of all three", x.apart(0, 0), x.apart(0, 1), 1, 3);
        Due.is("what 2", x.apart(0, 2), -1);
        Due.is("what -1", x.apart(0, -1), -1);
        for (int side : OTHERS) {
            Due.is("apart of side " + side, x.apart(side, 0), -1);
        }
        x.plan(1, 0, 0);
        Due.is("no entries", x.apart(1, 0), -1);
    }

    private static void count() {
        SecretForces x = new SecretForces();
        Due.tell(x, "fields 3 1; forces 6 2; ties 2; book 0 06 15 24; book 1 02; plan 0 06 weight 5;"
            + " plan 1 02 weight 1 11 weight 2");
        x.note(0, 0);
        x.note(1, 0);
        x.note(1, 0);
        x.state(77);
        x.feed(0, 0, 0, 0, 0);
        int[] want = {2, 6, 2, 2, 4, 3, 1, 1, 2, 1, 2, 77, 20};
        for (int what = 0; what < want.length; what++) {
            Due.is("count " + what, x.count(what), want[what]);
        }
        int[] worths = {3, 1, 0, 0};
        for (int k = 0; k < 4; k++) {
            Due.is("worth " + k, x.count(20 + k), worths[k]);
        }
        for (int what : new int[] {-1, 13, 19, 24, Integer.MAX_VALUE, Integer.MIN_VALUE}) {
            Due.is("count " + what, x.count(what), -100);
        }
    }
}
