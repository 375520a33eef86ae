import java.util.NoSuchElementException;

/** Two sides that part their forces over the same fields in secret. */
public final class SecretForces {
    public static final int NONE = -1;

    private static final int NO_GAIN = NONE - 99;
    private static final int NO_SUM = NONE - 9999;
    private static final int NO_OTHER = -2;
    private static final int MOST_FIELDS = 4;
    private static final int MOST_WORTH = 8;
    private static final int MOST_FORCES = 7;
    // 7 forces over 4 fields: 10 over 3
    private static final int MOST_SPLITS = 120;
    private static final int MOST_BOOK = 6;
    private static final int MOST_ENTRIES = 8;
    private static final int MOST_WEIGHT = 99;
    private static final int MOST_NOTES = 40;
    private static final int MOST_BYTES = 300;
    private static final int MOST_MATCHES = 200;

    private Setting now;
    private final Teller teller;
    private final Tape tape;
    private final Notes[] notes;
    private final Sieve sieve;
    private final Spread spread;
    private final Game game;
    private int chance;

    public SecretForces() {
        now = new Setting();
        teller = new Teller();
        tape = teller.tape;
        notes = new Notes[2];
        notes[0] = new Notes();
        notes[1] = new Notes();
        sieve = new Sieve();
        spread = new Spread();
        game = new Game();
    }

    // ---- telling

    public int feed(int a, int b, int c, int d, int e) {
        if (tape.many + 20 > MOST_BYTES) {
            return NONE;
        }
        tape.put(a);
        tape.put(b);
        tape.put(c);
        tape.put(d);
        tape.put(e);
        return tape.many;
    }

    public int text(int n) {
        if (n < 0 || n > tape.many) {
            return NONE;
        }
        teller.told.copyFrom(now);
        int answer = teller.read(n);
        tape.many = 0;
        if (answer < 0) {
            return answer;
        }
        Setting old = now;
        now = teller.told;
        teller.told = old;
        now.plans[0].restart();
        now.plans[1].restart();
        forgetNotes();
        sieve.stale = true;
        return answer;
    }

    public int field(int worth) {
        if (worth < 1 || worth > MOST_WORTH || now.fields >= MOST_FIELDS
                || now.allWorth() + worth > MOST_WORTH) {
            return NONE;
        }
        now.worth[now.fields] = worth;
        now.fields++;
        beginAnew();
        return now.fields;
    }

    public int lose() {
        if (now.fields <= 1) {
            return NONE;
        }
        now.fields--;
        beginAnew();
        return now.fields;
    }

    public int forces(int side, int many) {
        if (!isSide(side) || many < 0 || many > MOST_FORCES) {
            return NONE;
        }
        int before = now.forces[side];
        now.forces[side] = many;
        beginAnew();
        return before;
    }

    public int ties(int rule) {
        if (rule < 0 || rule > 2) {
            return NONE;
        }
        int before = now.ties;
        now.ties = rule;
        sieve.stale = true;
        return before;
    }

    private void beginAnew() {
        now.renew();
        forgetNotes();
        sieve.stale = true;
    }

    private void forgetNotes() {
        notes[0].clear();
        notes[1].clear();
    }

    // ---- splits

    public int splits(int side) {
        return isSide(side) ? now.many[side] : NONE;
    }

    public int split(int side, int i) throws NoSuchElementException {
        if (!now.isSplit(side, i)) {
            throw new NoSuchElementException("no such split");
        }
        return now.codes[side][i];
    }

    public int number(int side, int eights) {
        return isSide(side) ? now.numberOf(side, eights) : NONE;
    }

    public int gain(int one, int other) {
        if (!now.isSplit(0, one) || !now.isSplit(1, other)) {
            return NO_GAIN;
        }
        return now.gainFor(0, one, other);
    }

    public int shapes(int side) {
        return isSide(side) ? now.shapesUpTo(side, now.many[side] - 1) : NONE;
    }

    public int shape(int side, int i, int what) {
        if (!now.isSplit(side, i)) {
            return NONE;
        }
        switch (what) {
            case 0:
                return now.shapeSize(side, i);
            case 1:
                return now.shapeFirst(side, i);
            case 2:
                return now.shapesUpTo(side, i);
            default:
                return NONE;
        }
    }

    public long ways(int many, int fields, int each) {
        if (many < 0 || many > 20 || fields < 1 || fields > 8 || each < 0 || each > 3) {
            return NONE;
        }
        int rest = many - fields * each;
        if (rest < 0) {
            return 0;
        }
        long found = 1;
        for (int k = 1; k < fields; k++) {
            found = found * (rest + k) / k;
        }
        return found;
    }

    // ---- worse and better ones

    public int worse(int side, int i, boolean beaten) {
        if (!now.isSplit(side, i)) {
            return NONE;
        }
        for (int j = 0; j < now.many[side]; j++) {
            if (beaten ? now.isBeaten(side, i, j) : now.isWorse(side, i, j)) {
                return j;
            }
        }
        return NO_OTHER;
    }

    public int left(int side, int i) {
        if (!isSide(side)) {
            return NONE;
        }
        sieve.settle(now);
        if (i == NONE) {
            return sieve.many[side];
        }
        return i >= 0 && i < sieve.many[side] ? sieve.kept[side][i] : NONE;
    }

    public int rounds() {
        sieve.settle(now);
        return sieve.turns;
    }

    public int safe(int side, int i) {
        if (isSide(side) && i == NONE) {
            return safest(side);
        }
        if (!now.isSplit(side, i)) {
            return NO_GAIN;
        }
        return now.leastGain(side, i, -MOST_WORTH);
    }

    private int safest(int side) {
        int most = -MOST_WORTH;
        for (int i = 0; i < now.many[side]; i++) {
            most = Math.max(most, now.leastGain(side, i, most));
        }
        return most;
    }

    // ---- books

    public int add(int side, int i) {
        if (!canJoin(side, i)) {
            return NONE;
        }
        now.books[side].put(i);
        return now.books[side].many;
    }

    private boolean canJoin(int side, int i) {
        return now.isSplit(side, i) && now.books[side].many < MOST_BOOK && !now.books[side].has(i);
    }

    public int shut(int side) {
        if (!isSide(side)) {
            return NONE;
        }
        int before = now.books[side].many;
        now.books[side].many = 0;
        return before;
    }

    public int book(int side, int k) {
        if (!isSide(side)) {
            return NONE;
        }
        Book found = now.books[side];
        if (k == NONE) {
            return found.many;
        }
        return k >= 0 && k < found.many ? found.list[k] : NONE;
    }

    public int value(int what) {
        if (!isPart(what) || !haveBooks()) {
            return NO_GAIN;
        }
        takeBooks();
        return takenValue(what);
    }

    public int best(int side, int k, int what) {
        if (!isSide(side) || !isPart(what) || !haveBooks() || k < 0 || k >= now.books[side].many) {
            return NONE;
        }
        takeBooks();
        game.solve(now, side);
        return lowest(game.shareAbove(k), game.shareBelow(), what);
    }

    public int valueWith(int side, int i, int what) {
        if (!isPart(what) || !haveBooks() || !canJoin(side, i)) {
            return NO_GAIN;
        }
        takeBooks();
        game.join(side, i);
        return takenValue(what);
    }

    public int needless(int side) {
        if (!isSide(side) || !haveBooks()) {
            return NONE;
        }
        takeBooks();
        game.solve(now, 0);
        long above = game.valueAbove();
        long below = game.shareBelow();
        int many = now.books[side].many;
        for (int k = 0; k < many && many > 1; k++) {
            takeBooks();
            game.leaveOut(side, k);
            game.solve(now, 0);
            if (game.valueAbove() * below == above * game.shareBelow()) {
                return k;
            }
        }
        return NO_OTHER;
    }

    private boolean haveBooks() {
        return now.books[0].many > 0 && now.books[1].many > 0;
    }

    private void takeBooks() {
        game.take(0, now.books[0]);
        game.take(1, now.books[1]);
    }

    private int takenValue(int what) {
        game.solve(now, 0);
        return lowest(game.valueAbove(), game.shareBelow(), what);
    }

    // ---- plans

    public int plan(int side, int i, int weight) {
        if (!now.isSplit(side, i) || weight < 0 || weight > MOST_WEIGHT) {
            return NONE;
        }
        Plan changed = now.plans[side];
        int at = changed.placeOf(i);
        if (at == NONE && (weight == 0 || changed.many >= MOST_ENTRIES)) {
            return NONE;
        }
        if (at == NONE) {
            changed.put(i, weight);
        } else if (weight == 0) {
            changed.drop(at);
        } else {
            changed.weigh(at, weight);
        }
        changed.restart();
        return changed.many;
    }

    public int entry(int side, int k, int what) {
        if (!isSide(side) || what < 0 || what > 2) {
            return NONE;
        }
        Plan found = now.plans[side];
        if (k == NONE) {
            return found.many;
        }
        if (k < 0 || k >= found.many) {
            return NONE;
        }
        switch (what) {
            case 0:
                return found.list[k];
            case 1:
                return found.weights[k];
            default:
                return found.drawn[k];
        }
    }

    public int hold(int side, int what) {
        if (!hasPlan(side) || !isPart(what)) {
            return NO_GAIN;
        }
        spreadPlan(side);
        return lowest(leastOfSpread(side), spread.all, what);
    }

    public int reply(int side) {
        if (!hasPlan(side)) {
            return NONE;
        }
        spreadPlan(side);
        return replyToSpread(side);
    }

    public int meet() {
        if (!hasPlan(0) || !hasPlan(1)) {
            return NONE;
        }
        spreadPlan(0);
        int one = leastOfSpread(0);
        spreadPlan(1);
        int other = leastOfSpread(1);
        return one * now.plans[1].all + other * now.plans[0].all == 0 ? 1 : 0;
    }

    public int evenHold(int side, int what) {
        if (!hasPlan(side) || !isPart(what)) {
            return NO_GAIN;
        }
        spreadPlan(side);
        spread.levelOut(now);
        return lowest(leastOfSpread(side), spread.all, what);
    }

    public int evenShare(int side, int i, int what) {
        if (!now.isSplit(side, i) || !hasPlan(side) || !isPart(what)) {
            return NONE;
        }
        Plan laid = now.plans[side];
        int first = now.shapeFirst(side, i);
        int weight = 0;
        for (int k = 0; k < laid.many; k++) {
            if (now.shapeFirst(side, laid.list[k]) == first) {
                weight += laid.weights[k];
            }
        }
        return lowest(weight, laid.all * now.shapeSize(side, i), what);
    }

    public int both(int what) {
        if (!hasPlan(0) || !hasPlan(1) || !isPart(what)) {
            return NO_GAIN;
        }
        spreadPlan(0);
        Plan other = now.plans[1];
        int sum = 0;
        for (int k = 0; k < other.many; k++) {
            sum += other.weights[k] * spread.gainFor(now, 0, now.codes[1][other.list[k]]);
        }
        return lowest(sum, spread.all * other.all, what);
    }

    public int mean(int side, int field, int what) {
        if (!hasPlan(side) || field < 0 || field >= now.fields || !isPart(what)) {
            return NONE;
        }
        spreadPlan(side);
        int sum = 0;
        for (int there = 0; there <= MOST_FORCES; there++) {
            sum += there * spread.mass[field][there];
        }
        return lowest(sum, spread.all, what);
    }

    private boolean hasPlan(int side) {
        return isSide(side) && now.plans[side].many > 0;
    }

    private void spreadPlan(int side) {
        Plan laid = now.plans[side];
        spread.clear();
        for (int k = 0; k < laid.many; k++) {
            spread.lay(now, now.codes[side][laid.list[k]], laid.weights[k]);
        }
    }

    /** The first split of the other side against which the spread gains least for its side. */
    private int replyToSpread(int side) {
        int other = 1 - side;
        int first = 0;
        int least = spread.gainFor(now, side, now.codes[other][0]);
        for (int i = 1; i < now.many[other]; i++) {
            int found = spread.gainFor(now, side, now.codes[other][i]);
            if (found < least) {
                least = found;
                first = i;
            }
        }
        return first;
    }

    private int leastOfSpread(int side) {
        return spread.gainFor(now, side, now.codes[1 - side][replyToSpread(side)]);
    }

    // ---- drawing

    public int state(int v) {
        int before = chance;
        chance = v;
        return before;
    }

    public int draw(int side, boolean turns) {
        if (!hasPlan(side)) {
            return NONE;
        }
        return turns ? now.plans[side].byTurns() : byChance(side);
    }

    private int byChance(int side) {
        Plan drawnFrom = now.plans[side];
        chance = chance * 1664525 + 1013904223;
        return drawnFrom.atPart(drawnFrom.all > 0 ? (chance >>> 8) % drawnFrom.all : 0);
    }

    public int match(int n) {
        if (n < 1 || n > MOST_MATCHES || !hasPlan(0) || !hasPlan(1)) {
            return NO_SUM;
        }
        int sum = 0;
        for (int k = 0; k < n; k++) {
            int one = byChance(0);
            int other = byChance(1);
            sum += now.gainFor(0, one, other);
        }
        return sum;
    }

    public int note(int side, int i) {
        if (!now.isSplit(side, i) || notes[side].many >= MOST_NOTES) {
            return NONE;
        }
        notes[side].put(i);
        return notes[side].many;
    }

    public int against(int side, int what) {
        if (!isSide(side) || !isPart(what) || notes[1 - side].many == 0) {
            return NO_SUM;
        }
        int other = 1 - side;
        spread.clear();
        for (int i = 0; i < now.many[other]; i++) {
            spread.lay(now, now.codes[other][i], notes[other].seen[i]);
        }
        // what one side gains the other one loses: most for the one is least for the other
        return what == 0 ? replyToSpread(other) : -leastOfSpread(other);
    }

    public int apart(int side, int what) {
        if (!hasPlan(side) || notes[side].many == 0 || !isPart(what)) {
            return NONE;
        }
        Plan laid = now.plans[side];
        int most = 0;
        for (int i = 0; i < now.many[side]; i++) {
            int seen = notes[side].seen[i] * laid.all;
            int due = laid.weightOf(i) * notes[side].many;
            most = Math.max(most, Math.abs(seen - due));
        }
        return lowest(most, notes[side].many * laid.all, what);
    }

    public int count(int what) {
        switch (what) {
            case 0:
                return now.fields;
            case 1:
            case 2:
                return now.forces[what - 1];
            case 3:
                return now.ties;
            case 4:
                return now.allWorth();
            case 5:
            case 6:
                return now.books[what - 5].many;
            case 7:
            case 8:
                return now.plans[what - 7].many;
            case 9:
            case 10:
                return notes[what - 9].many;
            case 11:
                return chance;
            case 12:
                return tape.many;
            default:
                return worthOrNone(what - 20);
        }
    }

    private int worthOrNone(int field) {
        if (field < 0 || field >= MOST_FIELDS) {
            return NO_GAIN;
        }
        return field < now.fields ? now.worth[field] : 0;
    }

    private static boolean isSide(int side) {
        return side == 0 || side == 1;
    }

    private static boolean isPart(int what) {
        return what == 0 || what == 1;
    }

    /** What stands above (0) or below (1) of a fraction in lowest terms. */
    private static int lowest(long above, long below, int what) {
        long common = below;
        long rest = Math.abs(above);
        // a remainder is less than half of what it was two steps before
        for (int step = 0; step < 200 && rest != 0; step++) {
            long next = common % rest;
            common = rest;
            rest = next;
        }
        if (common == 0) {
            return 0;
        }
        return (int) ((what == 0 ? above : below) / common);
    }

    /** Fields, forces, ties, books and plans: all that a text can tell. */
    private static final class Setting {
        int fields;
        int ties;
        final int[] worth = new int[MOST_FIELDS];
        final int[] forces = new int[2];
        final int[] many = new int[2];
        final int[][] codes = new int[2][MOST_SPLITS];
        final Book[] books = new Book[2];
        final Plan[] plans = new Plan[2];

        Setting() {
            fields = 3;
            worth[0] = 1;
            worth[1] = 1;
            worth[2] = 1;
            forces[0] = 5;
            forces[1] = 4;
            for (int side = 0; side < 2; side++) {
                books[side] = new Book();
                plans[side] = new Plan();
                listSplits(side);
            }
        }

        void copyFrom(Setting other) {
            fields = other.fields;
            ties = other.ties;
            System.arraycopy(other.worth, 0, worth, 0, MOST_FIELDS);
            for (int side = 0; side < 2; side++) {
                forces[side] = other.forces[side];
                many[side] = other.many[side];
                System.arraycopy(other.codes[side], 0, codes[side], 0, MOST_SPLITS);
                books[side].copyFrom(other.books[side]);
                plans[side].copyFrom(other.plans[side]);
            }
        }

        /** Fields or forces are others now: old splits mean nothing any more. */
        void renew() {
            for (int side = 0; side < 2; side++) {
                listSplits(side);
                books[side].many = 0;
                plans[side].clear();
            }
        }

        private void listSplits(int side) {
            int code = forces[side];
            int found = 0;
            for (; found < MOST_SPLITS && code != NONE; found++) {
                codes[side][found] = code;
                code = following(code);
            }
            many[side] = found;
        }

        /** The next greater code of as many forces; NONE behind the last one. */
        private int following(int code) {
            for (int place = 0; place < 3 * (fields - 1); place += 3) {
                int here = (code >> place) & 7;
                if (here > 0) {
                    // one goes to the field before, the rest to the last field
                    return code - (here << place) + (8 << place) + here - 1;
                }
            }
            return NONE;
        }

        int digit(int code, int field) {
            return (code >> 3 * (fields - 1 - field)) & 7;
        }

        private int oneOn(int field) {
            return 1 << 3 * (fields - 1 - field);
        }

        int allWorth() {
            int sum = 0;
            for (int field = 0; field < fields; field++) {
                sum += worth[field];
            }
            return sum;
        }

        boolean isSplit(int side, int i) {
            return isSide(side) && i >= 0 && i < many[side];
        }

        int numberOf(int side, int code) {
            for (int i = 0; i < many[side]; i++) {
                if (codes[side][i] == code) {
                    return i;
                }
            }
            return NONE;
        }

        /** 1 if side 0 wins a field, -1 if side 1 does, 0 if nobody. */
        int winner(int ofZero, int ofOne) {
            if (ofZero != ofOne) {
                return ofZero > ofOne ? 1 : -1;
            }
            return ties == 1 ? 1 : ties == 2 ? -1 : 0;
        }

        /** What a side gains by its i-th split against the j-th one of the other side. */
        int gainFor(int side, int i, int j) {
            int ofZero = side == 0 ? codes[0][i] : codes[0][j];
            int ofOne = side == 0 ? codes[1][j] : codes[1][i];
            int sum = 0;
            for (int field = 0; field < fields; field++) {
                sum += worth[field] * winner(digit(ofZero, field), digit(ofOne, field));
            }
            return side == 0 ? sum : -sum;
        }

        /** The least a split gains, or some gain that is no more than enough. */
        int leastGain(int side, int i, int enough) {
            int least = MOST_WORTH;
            for (int j = 0; j < many[1 - side] && least > enough; j++) {
                least = Math.min(least, gainFor(side, i, j));
            }
            return least;
        }

        boolean isBeaten(int side, int i, int by) {
            for (int j = 0; j < many[1 - side]; j++) {
                if (gainFor(side, i, j) >= gainFor(side, by, j)) {
                    return false;
                }
            }
            return true;
        }

        boolean isWorse(int side, int i, int than) {
            boolean less = false;
            for (int j = 0; j < many[1 - side]; j++) {
                int one = gainFor(side, i, j);
                int other = gainFor(side, than, j);
                if (one > other) {
                    return false;
                }
                less = less || one < other;
            }
            return less;
        }

        /** The least code of the same shape: numbers rise over fields that are alike. */
        private int leastAlike(int code) {
            int found = code;
            for (int field = 0; field < fields; field++) {
                for (int later = field + 1; later < fields; later++) {
                    int over = digit(found, field) - digit(found, later);
                    if (worth[field] == worth[later] && over > 0) {
                        found += over * (oneOn(later) - oneOn(field));
                    }
                }
            }
            return found;
        }

        int shapeFirst(int side, int i) {
            return numberOf(side, leastAlike(codes[side][i]));
        }

        int shapeSize(int side, int i) {
            int least = leastAlike(codes[side][i]);
            int found = 0;
            for (int j = 0; j < many[side]; j++) {
                if (leastAlike(codes[side][j]) == least) {
                    found++;
                }
            }
            return found;
        }

        int shapesUpTo(int side, int last) {
            int found = 0;
            for (int i = 0; i <= last && i < many[side]; i++) {
                if (leastAlike(codes[side][i]) == codes[side][i]) {
                    found++;
                }
            }
            return found;
        }
    }

    private static final class Book {
        final int[] list = new int[MOST_BOOK];
        int many;

        void copyFrom(Book other) {
            System.arraycopy(other.list, 0, list, 0, MOST_BOOK);
            many = other.many;
        }

        boolean has(int wanted) {
            for (int k = 0; k < many; k++) {
                if (list[k] == wanted) {
                    return true;
                }
            }
            return false;
        }

        void put(int more) {
            if (many < MOST_BOOK) {
                list[many] = more;
                many++;
            }
        }
    }

    private static final class Plan {
        final int[] list = new int[MOST_ENTRIES];
        final int[] weights = new int[MOST_ENTRIES];
        final int[] drawn = new int[MOST_ENTRIES];
        int many;
        int all;
        int turns;

        void copyFrom(Plan other) {
            System.arraycopy(other.list, 0, list, 0, MOST_ENTRIES);
            System.arraycopy(other.weights, 0, weights, 0, MOST_ENTRIES);
            System.arraycopy(other.drawn, 0, drawn, 0, MOST_ENTRIES);
            many = other.many;
            all = other.all;
            turns = other.turns;
        }

        void clear() {
            many = 0;
            all = 0;
            restart();
        }

        void restart() {
            turns = 0;
            for (int k = 0; k < MOST_ENTRIES; k++) {
                drawn[k] = 0;
            }
        }

        int placeOf(int wanted) {
            for (int k = 0; k < many; k++) {
                if (list[k] == wanted) {
                    return k;
                }
            }
            return NONE;
        }

        int weightOf(int wanted) {
            int at = placeOf(wanted);
            return at == NONE ? 0 : weights[at];
        }

        void put(int more, int weight) {
            if (many < MOST_ENTRIES) {
                list[many] = more;
                weights[many] = weight;
                many++;
                all += weight;
            }
        }

        void weigh(int at, int weight) {
            all += weight - weights[at];
            weights[at] = weight;
        }

        void drop(int at) {
            all -= weights[at];
            many--;
            for (int k = at; k < many; k++) {
                list[k] = list[k + 1];
                weights[k] = weights[k + 1];
            }
        }

        /** The split in whose part of all weights this lies. */
        int atPart(int part) {
            int rest = part;
            int k = 0;
            while (k < many - 1 && rest >= weights[k]) {
                rest -= weights[k];
                k++;
            }
            return list[k];
        }

        int byTurns() {
            turns++;
            int next = 0;
            for (int k = 1; k < many; k++) {
                if (owed(k) > owed(next)) {
                    next = k;
                }
            }
            drawn[next]++;
            return list[next];
        }

        private int owed(int k) {
            return weights[k] * turns - drawn[k] * all;
        }
    }

    private static final class Notes {
        final int[] seen = new int[MOST_SPLITS];
        int many;

        void clear() {
            many = 0;
            for (int i = 0; i < MOST_SPLITS; i++) {
                seen[i] = 0;
            }
        }

        void put(int i) {
            seen[i]++;
            many++;
        }
    }

    /** The bytes of the tape, and the token of them that a text is read at. */
    private static final class Tape {
        static final int END = 0;
        static final int WORD = 1;
        static final int NUMBER = 2;
        static final int STOP = 3;
        static final int WRONG = 4;

        final int[] bytes = new int[MOST_BYTES];
        int many;
        int kind;
        int from;
        private int behind;
        private int end;

        void put(int four) {
            for (int shift = 24; shift >= 0 && many < MOST_BYTES; shift -= 8) {
                bytes[many] = (four >>> shift) & 255;
                many++;
            }
        }

        void begin(int n) {
            end = Math.min(n, many);
            behind = 0;
            step();
        }

        /** To the next token. */
        void step() {
            from = behind;
            while (from < end && (bytes[from] == 32 || bytes[from] == 10)) {
                from++;
            }
            behind = from;
            if (from >= end) {
                kind = END;
            } else if (bytes[from] == ';') {
                kind = STOP;
                behind++;
            } else if (skip('a', 'z')) {
                kind = WORD;
            } else if (skip('0', '9')) {
                // five digits that stand together begin no token
                kind = behind - from <= 4 ? NUMBER : WRONG;
            } else {
                kind = WRONG;
            }
        }

        /** Past all such signs that stand here together: whether there are any. */
        private boolean skip(char least, char most) {
            while (behind < end && bytes[behind] >= least && bytes[behind] <= most) {
                behind++;
            }
            return behind > from;
        }

        boolean isWord(String wanted) {
            if (kind != WORD || behind - from != wanted.length()) {
                return false;
            }
            for (int k = 0; k < wanted.length(); k++) {
                if (bytes[from + k] != wanted.charAt(k)) {
                    return false;
                }
            }
            return true;
        }

        /** What the number here is, read by tens. */
        int amount() {
            int sum = 0;
            for (int k = from; k < behind; k++) {
                sum = sum * 10 + bytes[k] - '0';
            }
            return sum;
        }

        /** What the number here is, read by eights; NONE if it is not of so many such digits. */
        int eights(int digits) {
            if (behind - from != digits) {
                return NONE;
            }
            int sum = 0;
            for (int k = from; k < behind; k++) {
                if (bytes[k] > '7') {
                    return NONE;
                }
                sum = sum * 8 + bytes[k] - '0';
            }
            return sum;
        }
    }

    /** Reads a text; of one place the least fault is told, so tests go by their kinds. */
    private static final class Teller {
        private static final int UNDUE = 1;
        private static final int OUT_OF_BOUNDS = 2;
        private static final int NO_SPLIT = 3;
        private static final int TOO_MANY = 4;

        final Tape tape = new Tape();
        // beside the setting that is in use, so that a fault leaves that one as it was
        Setting told = new Setting();
        private int fault;

        /** How many lines there are, or the fault, which is below 0. */
        int read(int n) {
            tape.begin(n);
            for (int lines = 1; lines <= MOST_BYTES; lines++) {
                if (!readLine()) {
                    return fault;
                }
                if (tape.kind == Tape.END) {
                    return lines;
                }
                if (tape.kind != Tape.STOP) {
                    break;
                }
                tape.step();
            }
            refuse(UNDUE);
            return fault;
        }

        private boolean refuse(int kind) {
            fault = -2 - (8 * tape.from + kind);
            return false;
        }

        private boolean readLine() {
            if (tape.isWord("fields")) {
                return readFields();
            }
            if (tape.isWord("forces")) {
                return readForces();
            }
            if (tape.isWord("ties")) {
                return readTies();
            }
            if (tape.isWord("book")) {
                return readBook();
            }
            if (tape.isWord("plan")) {
                return readPlan();
            }
            return refuse(UNDUE);
        }

        private boolean isNumber(int least, int most) {
            if (tape.kind != Tape.NUMBER) {
                return refuse(UNDUE);
            }
            int amount = tape.amount();
            return amount >= least && amount <= most || refuse(OUT_OF_BOUNDS);
        }

        private boolean readFields() {
            tape.step();
            int room = MOST_WORTH;
            int many = 0;
            while (many == 0 || tape.kind == Tape.NUMBER) {
                if (!isNumber(1, room)) {
                    return false;
                }
                if (many >= MOST_FIELDS) {
                    return refuse(TOO_MANY);
                }
                told.worth[many] = tape.amount();
                room -= tape.amount();
                many++;
                tape.step();
            }
            told.fields = many;
            told.renew();
            return true;
        }

        private boolean readForces() {
            tape.step();
            for (int side = 0; side < 2; side++) {
                if (!isNumber(0, MOST_FORCES)) {
                    return false;
                }
                told.forces[side] = tape.amount();
                tape.step();
            }
            told.renew();
            return true;
        }

        private boolean readTies() {
            tape.step();
            if (!isNumber(0, 2)) {
                return false;
            }
            told.ties = tape.amount();
            tape.step();
            return true;
        }

        /** The side that a line tells of; NONE if there is a fault. */
        private int readSide() {
            tape.step();
            if (!isNumber(0, 1)) {
                return NONE;
            }
            int side = tape.amount();
            tape.step();
            return side;
        }

        /** The number of the split that stands here; NONE if none does. */
        private int splitHere(int side) {
            return told.numberOf(side, tape.eights(told.fields));
        }

        private boolean readBook() {
            int side = readSide();
            if (!isSide(side)) {
                return false;
            }
            Book read = told.books[side];
            read.many = 0;
            for (int k = 0; k == 0 || tape.kind == Tape.NUMBER; k++) {
                if (tape.kind != Tape.NUMBER) {
                    return refuse(UNDUE);
                }
                int here = splitHere(side);
                if (here == NONE || read.has(here)) {
                    return refuse(NO_SPLIT);
                }
                if (k >= MOST_BOOK) {
                    return refuse(TOO_MANY);
                }
                read.put(here);
                tape.step();
            }
            return true;
        }

        private boolean readPlan() {
            int side = readSide();
            if (!isSide(side)) {
                return false;
            }
            Plan read = told.plans[side];
            read.clear();
            for (int k = 0; k == 0 || tape.kind == Tape.NUMBER; k++) {
                if (tape.kind != Tape.NUMBER) {
                    return refuse(UNDUE);
                }
                int here = splitHere(side);
                if (here == NONE || read.placeOf(here) != NONE) {
                    return refuse(NO_SPLIT);
                }
                if (k >= MOST_ENTRIES) {
                    return refuse(TOO_MANY);
                }
                tape.step();
                if (!readWeight()) {
                    return false;
                }
                read.put(here, tape.amount());
                tape.step();
            }
            return true;
        }

        /** Up to the number behind the word. */
        private boolean readWeight() {
            if (!tape.isWord("weight")) {
                return refuse(UNDUE);
            }
            tape.step();
            return isNumber(1, MOST_WEIGHT);
        }
    }

    /** The splits of both sides that are left when all beaten ones go, again and again. */
    private static final class Sieve {
        final int[][] kept = new int[2][MOST_SPLITS];
        final int[] many = new int[2];
        int turns;
        boolean stale = true;
        private final int[][] goes = new int[2][MOST_SPLITS];
        private final int[] row = new int[MOST_SPLITS];

        void settle(Setting setting) {
            if (!stale) {
                return;
            }
            stale = false;
            turns = 0;
            keepAll(setting, 0);
            keepAll(setting, 1);
            // each time at least one split goes
            for (int turn = 0; turn < 2 * MOST_SPLITS; turn++) {
                markBeaten(setting, 0);
                markBeaten(setting, 1);
                boolean some = dropMarked(0);
                some = dropMarked(1) || some;
                if (!some) {
                    return;
                }
                turns++;
            }
        }

        private void keepAll(Setting setting, int side) {
            many[side] = setting.many[side];
            for (int i = 0; i < many[side]; i++) {
                kept[side][i] = i;
            }
        }

        private void markBeaten(Setting setting, int side) {
            for (int k = 0; k < many[side]; k++) {
                int i = kept[side][k];
                int first = setting.shapeFirst(side, i);
                // splits of one shape go together, as fields that are alike can be changed for both
                // sides at once; the first of them has the least number, so it has its mark
                boolean known = first >= 0 && first < i;
                goes[side][i] = known ? goes[side][first] : isBeatenByKept(setting, side, i) ? 1 : 0;
            }
        }

        private boolean isBeatenByKept(Setting setting, int side, int i) {
            int other = 1 - side;
            for (int k = 0; k < many[other]; k++) {
                row[k] = setting.gainFor(side, i, kept[other][k]);
            }
            for (int k = 0; k < many[side]; k++) {
                if (isAboveRow(setting, side, kept[side][k])) {
                    return true;
                }
            }
            return false;
        }

        private boolean isAboveRow(Setting setting, int side, int by) {
            int other = 1 - side;
            for (int k = 0; k < many[other]; k++) {
                if (row[k] >= setting.gainFor(side, by, kept[other][k])) {
                    return false;
                }
            }
            return true;
        }

        private boolean dropMarked(int side) {
            int stay = 0;
            for (int k = 0; k < many[side]; k++) {
                int i = kept[side][k];
                if (goes[side][i] == 0) {
                    kept[side][stay] = i;
                    stay++;
                }
            }
            boolean some = stay < many[side];
            many[side] = stay;
            return some;
        }
    }

    /** How much weight lies on each number of forces, of each field: gains need no more. */
    private static final class Spread {
        final int[][] mass = new int[MOST_FIELDS][MOST_FORCES + 1];
        int all;

        void clear() {
            all = 0;
            for (int field = 0; field < MOST_FIELDS; field++) {
                for (int there = 0; there <= MOST_FORCES; there++) {
                    mass[field][there] = 0;
                }
            }
        }

        void lay(Setting setting, int code, int weight) {
            all += weight;
            for (int field = 0; field < setting.fields; field++) {
                mass[field][setting.digit(code, field)] += weight;
            }
        }

        /** All orders over fields that are alike: each such field has the middle of all of them. */
        void levelOut(Setting setting) {
            // 12 can be parted by 1, 2, 3 and 4
            all *= 12;
            for (int field = 0; field < setting.fields; field++) {
                if (isFirstAlike(setting, field)) {
                    levelAlike(setting, setting.worth[field]);
                }
            }
        }

        private boolean isFirstAlike(Setting setting, int field) {
            for (int before = 0; before < field; before++) {
                if (setting.worth[before] == setting.worth[field]) {
                    return false;
                }
            }
            return true;
        }

        private void levelAlike(Setting setting, int worth) {
            for (int there = 0; there <= MOST_FORCES; there++) {
                int sum = 0;
                int alike = 0;
                for (int field = 0; field < setting.fields; field++) {
                    if (setting.worth[field] == worth) {
                        sum += mass[field][there];
                        alike++;
                    }
                }
                int middle = alike > 0 ? sum * 12 / alike : 0;
                for (int field = 0; field < setting.fields; field++) {
                    if (setting.worth[field] == worth) {
                        mass[field][there] = middle;
                    }
                }
            }
        }

        /** What a side gains by this against a split of the other one, times all weights. */
        int gainFor(Setting setting, int side, int code) {
            int sum = 0;
            for (int field = 0; field < setting.fields; field++) {
                int others = setting.digit(code, field);
                int won = 0;
                for (int there = 0; there <= MOST_FORCES; there++) {
                    int sign = side == 0 ? setting.winner(there, others) : -setting.winner(others, there);
                    won += mass[field][there] * sign;
                }
                sum += setting.worth[field] * won;
            }
            return sum;
        }
    }

    /**
     * The value of a game by a few splits, by the simplex method in whole numbers. One side's shares,
     * each divided by what it loses at most, are a column each; all of them together are to be as
     * great as can be, then the first one, then the second one, and so on.
     */
    private static final class Game {
        // added to losses, so that all of them are above 0
        private static final int LIFT = MOST_WORTH + 1;
        // no basis comes again, and there are 924 of 12 names by sixes
        private static final int MOST_TURNS = 1000;

        private final int[][] picks = new int[2][MOST_BOOK];
        private final int[] many = new int[2];
        private final long[][] table = new long[MOST_BOOK + 1][MOST_BOOK + 1];
        private final int[] rowNames = new int[MOST_BOOK];
        private final int[] columnNames = new int[MOST_BOOK];
        private int rows;
        private int columns;
        // what all numbers of the table are to be divided by; above 0
        private long scale;

        void take(int side, Book book) {
            many[side] = book.many;
            for (int k = 0; k < book.many; k++) {
                picks[side][k] = book.list[k];
            }
        }

        void join(int side, int more) {
            if (many[side] < MOST_BOOK) {
                picks[side][many[side]] = more;
                many[side]++;
            }
        }

        void leaveOut(int side, int k) {
            many[side]--;
            for (int at = k; at < many[side]; at++) {
                picks[side][at] = picks[side][at + 1];
            }
        }

        void solve(Setting setting, int side) {
            fill(setting, side);
            for (int turn = 0; turn < MOST_TURNS; turn++) {
                int column = entering();
                int row = column == NONE ? NONE : leaving(column);
                if (row == NONE) {
                    return;
                }
                exchange(row, column);
            }
        }

        long valueAbove() {
            return LIFT * table[rows][columns] - scale;
        }

        long shareBelow() {
            return table[rows][columns];
        }

        long shareAbove(int k) {
            int row = rowOf(k);
            return row == NONE ? 0 : table[row][columns];
        }

        private void fill(Setting setting, int side) {
            columns = many[side];
            rows = many[1 - side];
            scale = 1;
            for (int column = 0; column < columns; column++) {
                columnNames[column] = column;
                table[rows][column] = -1;
                for (int row = 0; row < rows; row++) {
                    table[row][column] = LIFT - setting.gainFor(side, picks[side][column], picks[1 - side][row]);
                }
            }
            for (int row = 0; row < rows; row++) {
                rowNames[row] = columns + row;
                table[row][columns] = 1;
            }
            table[rows][columns] = 0;
        }

        /** The column of the least name by which it gets better; NONE if none does. */
        private int entering() {
            int found = NONE;
            for (int column = 0; column < columns; column++) {
                boolean sooner = found == NONE || columnNames[column] < columnNames[found];
                if (sooner && isBetter(column)) {
                    found = column;
                }
            }
            return found;
        }

        private boolean isBetter(int column) {
            long change = table[rows][column];
            for (int k = 0; k < columns && change == 0; k++) {
                if (columnNames[column] == k) {
                    return true;
                }
                int row = rowOf(k);
                change = row == NONE ? 0 : table[row][column];
            }
            return change < 0;
        }

        private int rowOf(int name) {
            for (int row = 0; row < rows; row++) {
                if (rowNames[row] == name) {
                    return row;
                }
            }
            return NONE;
        }

        /** The row that comes to 0 first, of several that of the least name. */
        private int leaving(int column) {
            int found = NONE;
            for (int row = 0; row < rows; row++) {
                if (table[row][column] > 0 && (found == NONE || isSooner(row, found, column))) {
                    found = row;
                }
            }
            return found;
        }

        private boolean isSooner(int row, int than, int column) {
            long one = table[row][columns] * table[than][column];
            long other = table[than][columns] * table[row][column];
            return one != other ? one < other : rowNames[row] < rowNames[than];
        }

        private void exchange(int row, int column) {
            long pivot = table[row][column];
            if (scale == 0) {
                return;
            }
            for (int i = 0; i <= rows; i++) {
                for (int j = 0; j <= columns && i != row; j++) {
                    if (j != column) {
                        // the division leaves no rest: all numbers here are determinants
                        table[i][j] = (table[i][j] * pivot - table[i][column] * table[row][j]) / scale;
                    }
                }
            }
            for (int i = 0; i <= rows; i++) {
                table[i][column] = -table[i][column];
            }
            table[row][column] = scale;
            scale = pivot;
            int name = rowNames[row];
            rowNames[row] = columnNames[column];
            columnNames[column] = name;
        }
    }
}
