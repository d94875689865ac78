/** Promises 50 to 53: what would be, and the checksum; and what the terms tell of refused calls. */
final class WouldBeEdges extends Edges {
    /** Clustered, it takes one byte less: steps of 9 bits become steps of 8. */
    private static final int[] STEPS = {100, 300, 200, 400};

    /** Two columns of 64 rows, by turns and rising by 1: clustered by 0 it takes more, by 1 the same. */
    private static ColdFrame waves() {
        ColdFrame x = store(2, 64);
        for (int i = 0; i < 64; i++) {
            row(x, i % 2 * MILLION, i);
        }
        return x;
    }

    private void changesNothing(Asked call) {
        for (Maker maker : new Maker[] {ColdFrame::new, Scene::busy, WouldBeEdges::waves}) {
            ColdFrame asked = maker.make();
            Check.answerOf(() -> call.of(asked));
            due("the answers behind it", Answers.of(asked), Answers.of(maker.make()));
            ColdFrame spent = maker.make();
            Check.answerOf(() -> call.of(spent));
            due("what comes then", Answers.lastOf(spent), Answers.lastOf(maker.make()));
        }
    }

    // ---- the terms

    @Told(promise = TERMS, words = "A method that throws an exception changes nothing.")
    void t1changesNothing() {
        Maker busy = Scene::busy;
        refused("addColumn", STATE, busy, ColdFrame::addColumn);
        refused("give", BOUNDS, busy, x -> x.give(2, 5));
        refused("add", STATE, ColdFrame::new, ColdFrame::add);
        refused("delete", BOUNDS, busy, x -> x.delete(10));
        refused("change of no row", BOUNDS, busy, x -> x.change(10, 0, 5));
        refused("change of no column", BOUNDS, busy, x -> x.change(8, 2, 5));
        refused("change of a dead row", STATE, busy, x -> x.change(9, 0, 5));
        refused("setSize", ARGUMENT, busy, x -> x.setSize(3));
        refused("seal", STATE, () -> counted(4, 8), ColdFrame::seal);
        refused("cluster of no frame", BOUNDS, busy, x -> x.cluster(2, 0));
        refused("cluster of no column", BOUNDS, busy, x -> x.cluster(0, 2));
        refused("merge of the last", BOUNDS, busy, x -> x.merge(1));
        refused("merge of too many", STATE, WouldBeEdges::tooMany, x -> x.merge(0));
        refused("index", BOUNDS, busy, x -> x.index(2));
        refused("where of no column", BOUNDS, busy, x -> x.where(2, 0, 0));
        refused("where of no test", ARGUMENT, busy, x -> x.where(0, 8, 0));
        refused("where in a full group", STATE, WouldBeEdges::fullGroup, x -> x.where(0, 0, 0));
        refused("orElse", STATE, () -> counted(4, 8), ColdFrame::orElse);
        refused("sort", BOUNDS, busy, x -> x.sort(2, false));
        refused("limit", ARGUMENT, busy, x -> x.limit(-1));
        refused("groups", BOUNDS, busy, x -> x.groups(2));
        refused("ofGroup", ARGUMENT, busy, x -> x.ofGroup(0, 0, 0, 5));
        refused("pairs", BOUNDS, busy, x -> x.pairs(0, 2));
    }

    /** Two frames of 33 and 32 rows; of the first one some that do not count are dead. */
    private static ColdFrame tooMany() {
        ColdFrame x = counted(36, 36);
        x.setSize(32);
        for (int i = 0; i < 32; i++) {
            row(x, i);
        }
        return killed(x, 1, 3);
    }

    private static ColdFrame fullGroup() {
        ColdFrame x = counted(4, 6);
        for (int i = 0; i < 4; i++) {
            x.where(0, 5, i);
        }
        return x;
    }

    @Told(promise = TERMS, words = "If several exceptions apply, the one that is named first is thrown.")
    void t2namedFirst() {
        refused("change: no column, not ALIVE", BOUNDS, Scene::busy, x -> x.change(2, 2, 0));
        refused("change: no column alone", BOUNDS, Scene::busy, x -> x.change(3, 2, 0));
        refused("change: not ALIVE alone", STATE, Scene::busy, x -> x.change(2, 1, 0));
        refused("bytesAs: no frame, no form", BOUNDS, Scene::busy, x -> x.bytesAs(-1, 0, -1));
        refused("bytesAs: no column, no form", BOUNDS, Scene::busy, x -> x.bytesAs(0, -1, 5));
        refused("bytesAs: no form alone", ARGUMENT, Scene::busy, x -> x.bytesAs(0, 0, 5));
        refused("where: no column, no test, full", BOUNDS, WouldBeEdges::fullGroup, x -> x.where(1, 8, 0));
        refused("where: no column, no test", BOUNDS, Scene::busy, x -> x.where(2, 8, 0));
        refused("where: no column, full", BOUNDS, WouldBeEdges::fullGroup, x -> x.where(1, 0, 0));
        refused("where: no test, full", ARGUMENT, WouldBeEdges::fullGroup, x -> x.where(0, 8, 0));
        refused("where: full alone", STATE, WouldBeEdges::fullGroup, x -> x.where(0, 7, 0));
        refused("ofGroup: no column, no account", BOUNDS, Scene::busy, x -> x.ofGroup(2, 0, 0, 5));
        refused("ofGroup: no group, no account", BOUNDS, Scene::busy, x -> x.ofGroup(0, 3, 0, 5));
        refused("ofGroup: no other column, no account", BOUNDS, Scene::busy, x -> x.ofGroup(0, 0, 2, -1));
        refused("ofGroup: no account alone", ARGUMENT, Scene::busy, x -> x.ofGroup(0, 2, 1, -1));
    }

    // ---- 50 and 51

    /** One frame of eight rows: 1 and a million by turns, a DICTIONARY; the condition finds four. */
    private static ColdFrame codes() {
        ColdFrame x = oneFrame(1, MILLION, 1, MILLION, 1, MILLION, 1, MILLION);
        x.where(0, 0, 1);
        return x;
    }

    @Told(promise = 50, words = "Returns what cost() would be behind find() now")
    void p50now() {
        ColdFrame x = codes();
        due("ahead of the first find", x.costWithout(), 2 + 8);
        x.find();
        due("behind it", x.costWithout(), x.cost());
        row(x, 1);
        due("one row in the BUFFER", x.costWithout(), 2 + 8 + 1);
        x.where(0, 0, 0);
        due("one condition more", x.costWithout(), 0 + 1 + 1);
        x.clear();
        due("no condition", x.costWithout(), 0);
        due("the cost stays", x.cost(), 10);
        due("no columns", new ColdFrame().costWithout(), 0);
    }

    @Told(promise = 50, words = "if no column were INDEXED")
    void p50notIndexed() {
        ColdFrame x = codes();
        x.index(0);
        x.find();
        due("bitmaps", x.cost(), 1);
        due("without", x.costWithout(), 10);
        x.find();
        due("they are there still", x.cost(), 1);
        due("INDEXED still", x.index(0), false);
        x.find();
        due("not any more", x.cost(), x.costWithout());
        changesNothing(ColdFrame::costWithout);
    }

    @Told(promise = 51, words = "Returns what find() would tell now.")
    void p51now() {
        ColdFrame x = codes();
        due("ahead of the first find", x.wouldFind(), 4);
        due("no RESULT", x.found(), 0);
        row(x, 1);
        due("one row more", x.wouldFind(), 5);
        x.delete(0);
        due("one row deleted", x.wouldFind(), 4);
        due("find", x.find(), 4);
        x.limit(1);
        due("limited", x.wouldFind(), 4);
        due("still limited", x.found(), 1);
        x.where(0, 0, 2);
        due("none", x.wouldFind(), 0);
        x.clear();
        due("all", x.wouldFind(), 8);
        due("no columns", new ColdFrame().wouldFind(), 0);
        changesNothing(ColdFrame::wouldFind);
    }

    // ---- 52

    @Told(promise = 52, words = "Returns the column by which cluster() would tell the most")
    void p52most() {
        ColdFrame x = waves();
        due("0 and not -34", x.bestCluster(0), 1);
        x.cluster(0, 0);
        due("34 and not 0", x.bestCluster(0), 1);
        due("what it tells", x.cluster(0, 1), 34);
        ColdFrame y = store(2, 64);
        for (int i = 0; i < 64; i++) {
            row(y, i, i % 2 * MILLION);
        }
        due("the other way round", y.bestCluster(0), 0);
        due("of one column", counted(4, 4).bestCluster(0), 0);
        due("1 and not 0", steps(true).bestCluster(0), 1);
        due("0 and not 1", steps(false).bestCluster(0), 0);
        ColdFrame z = store(8, 4);
        for (int second : STEPS) {
            row(z, 1, 1, 1, 1, 1, 1, 1, second);
        }
        due("of eight, all but the last one let it be", z.bestCluster(0), 7);
        changesNothing(w -> w.bestCluster(0));
    }

    private static ColdFrame steps(boolean isSecond) {
        ColdFrame x = store(2, 4);
        for (int step : STEPS) {
            row(x, isSecond ? 7 : step, isSecond ? step : 7);
        }
        return x;
    }

    /** Three columns of 3 to 20 rows, NULL and deleted ones among them, the last one ALIVE. */
    private static ColdFrame drawn(int seed) {
        Dice dice = new Dice(seed);
        ColdFrame x = store(3, 64);
        int rows = 3 + dice.roll(18);
        for (int i = 0; i < rows; i++) {
            row(x, drawn(dice, 4, 100), drawn(dice, 30, 1), drawn(dice, 3, 5000));
        }
        x.seal();
        for (int r = 0; r < rows - 1; r++) {
            if (dice.oneIn(6)) {
                x.delete(r);
            }
        }
        return x;
    }

    /** By 0, 7 and 14 bytes; by 1, 7 and 13, but were NULL last, by 0 as few. */
    private static ColdFrame nullFirst() {
        ColdFrame x = store(2, 6);
        Integer[][] rows = {{2, 6}, {null, 0}, {2, 8}, {2, 2}, {null, 20}, {null, 50}};
        for (Integer[] values : rows) {
            row(x, values);
        }
        return x;
    }

    private static Integer drawn(Dice dice, int sides, int scale) {
        return dice.oneIn(6) ? null : (Integer) (dice.roll(sides) * scale);
    }

    /** Each column with an object of its own, as clustering changes it. */
    private static int bestByTrying(Maker maker) {
        int best = 0;
        int most = MIN;
        for (int c = 0; c < maker.make().columns(); c++) {
            int told = maker.make().cluster(0, c);
            if (told > most) {
                best = c;
                most = told;
            }
        }
        return best;
    }

    @Told(promise = 52, words = "by which cluster() would tell the most")
    void p52asClusterTells() {
        for (int seed = 0; seed < 100; seed++) {
            int drawn = seed;
            due("drawn " + drawn, drawn(drawn).bestCluster(0), bestByTrying(() -> drawn(drawn)));
        }
        due("were NULL last, the other one would be", nullFirst().bestCluster(0), 1);
        due("as it tells", bestByTrying(WouldBeEdges::nullFirst), 1);
    }

    @Told(promise = 52, words = "of several the smallest")
    void p52smallest() {
        ColdFrame x = store(3, 4);
        for (int i = 0; i < 4; i++) {
            row(x, 1, 5 - i, 5 - i);
        }
        due("all the same", x.bestCluster(0), 0);
        ColdFrame y = store(3, 4);
        for (int step : STEPS) {
            row(y, 7, step, step);
        }
        due("the last two", y.bestCluster(0), 1);
        due("the frame would be gone", killed(waves(), 0, 63).bestCluster(0), 0);
        due("one row would stay", killed(waves(), 0, 62).bestCluster(0), 0);
    }

    @Told(promise = 52, words = "Throws `IndexOutOfBoundsException` if there is no such frame")
    void p52noFrame() {
        onlyFrom(0, 1, BOUNDS, Scene::busy, (x, frame) -> x.bestCluster(frame));
        none(BOUNDS, () -> counted(4, 3), (x, frame) -> x.bestCluster(frame));
        none(BOUNDS, ColdFrame::new, (x, frame) -> x.bestCluster(frame));
    }

    // ---- 53

    /** The checksum by what the other calls tell. */
    private static final class Sum {
        private final ColdFrame x;
        private long d = 58023;

        Sum(ColdFrame x) {
            this.x = x;
        }

        private void add(int... numbers) {
            for (int number : numbers) {
                d = d * 31 + number;
            }
        }

        private void add(boolean isSo) {
            add(isSo ? 1 : 0);
        }

        long all() {
            add(x.columns(), x.rows(), x.alive(), x.frames(), x.inBuffer(), x.bitmapBytes());
            add(x.cost(), x.passed(), x.found());
            for (int i = 0; i < x.found(); i++) {
                add(x.foundAt(i));
            }
            for (int r = 0; r < x.rows(); r++) {
                add(x.isAlive(r));
                add(x.frameOf(r));
                for (int c = 0; c < x.columns(); c++) {
                    add(x.isNull(r, c));
                    add(x.valueOf(r, c));
                }
            }
            for (int f = 0; f < x.frames(); f++) {
                addFrame(f);
            }
            return d;
        }

        private void addFrame(int f) {
            add(x.rowsIn(f));
            for (int i = 0; i < x.rowsIn(f); i++) {
                add(x.rowAt(f, i));
            }
            add(x.bytes(f));
            for (int c = 0; c < x.columns(); c++) {
                add(x.formOf(f, c), x.nulls(f, c), x.distinct(f, c));
                add(x.runs(f, c), x.least(f, c), x.greatest(f, c));
            }
        }
    }

    private void sumDue(String what, ColdFrame x) {
        due(what, x.digest(), new Sum(x).all());
    }

    private static long sumOf(long... numbers) {
        long d = 58023;
        for (long number : numbers) {
            d = d * 31 + number;
        }
        return d;
    }

    @Told(promise = 53, words = "A number d starts with 58023")
    void p53start() {
        due("nine times 0", new ColdFrame().digest(), 58023L * 31 * 31 * 31 * 31 * 31 * 31 * 31 * 31 * 31);
        due("a column", store(1, 4).digest(), sumOf(1, 0, 0, 0, 0, 0, 0, 0, 0));
        due("8 columns", store(8, 4).digest(), sumOf(8, 0, 0, 0, 0, 0, 0, 0, 0));
    }

    @Told(promise = 53, words = "d becomes d * 31 + x, which wraps around as a 64-bit integer")
    void p53wraps() {
        due("nine numbers, not yet", new ColdFrame().digest(), 1534106196628613433L);
        due("13 numbers", counted(4, 1).digest(), -3629128792833056007L);
        due("17 numbers", counted(4, 2).digest(), -3749256693363524167L);
        due("numbers below 0", oneColumn(4, MIN).digest(), sumOf(1, 1, 1, 0, 1, 0, 0, 0, 0, 1, -1, 0, MIN));
        sumDue("eight rows", codes());
    }

    @Told(promise = 53, words = "(whether something is so counts 1 or 0)")
    void p53isSo() {
        due("NULL", oneColumn(4, (Integer) null).digest(), sumOf(1, 1, 1, 0, 1, 0, 0, 0, 0, 1, -1, 1, 0));
        due("not ALIVE", killed(counted(4, 1), 0, 0).digest(), sumOf(1, 1, 0, 0, 1, 0, 0, 0, 0, 0, -1, 0, 0));
    }

    @Told(promise = 53, words = "columns(), rows(), alive(), frames(), inBuffer(), bitmapBytes(), cost(), "
            + "passed(), found(), each foundAt()")
    void p53counts() {
        ColdFrame x = counted(4, 0);
        x.find();
        due("none is found", x.digest(), sumOf(1, 0, 0, 0, 0, 0, 0, 0, 0));
        ColdFrame y = oneColumn(4, 5, 6);
        y.where(0, 4, 5);
        y.find();
        due("one is found", y.digest(), sumOf(1, 2, 2, 0, 2, 0, 2, 0, 1, 1, 1, -1, 0, 5, 1, -1, 0, 6));
        y.clear();
        y.find();
        y.sort(0, true);
        due("as they are sorted", y.digest(), sumOf(1, 2, 2, 0, 2, 0, 0, 0, 2, 1, 0, 1, -1, 0, 5, 1, -1, 0, 6));
        y.limit(1);
        due("as they are limited", y.digest(), sumOf(1, 2, 2, 0, 2, 0, 0, 0, 1, 1, 1, -1, 0, 5, 1, -1, 0, 6));
    }

    @Told(promise = 53, words = "then for each row isAlive(), frameOf(), and for each column isNull(), valueOf()")
    void p53rows() {
        ColdFrame x = store(2, 4);
        row(x, 7, null);
        row(x, null, -7);
        x.delete(0);
        due("two rows of two columns", x.digest(),
                sumOf(2, 2, 1, 0, 2, 0, 0, 0, 0, 0, -1, 0, 7, 1, 0, 1, -1, 1, 0, 0, -7));
        x.seal();
        x.delete(1);
        x.cluster(0, 0);
        due("in none any more", x.digest(),
                sumOf(2, 2, 0, 0, 0, 0, 0, 0, 0, 0, -2, 0, 7, 1, 0, 0, -2, 1, 0, 0, -7));
    }

    @Told(promise = 53, words = "then for each frame rowsIn(), each rowAt(), bytes(), and for each column "
            + "formOf(), nulls(), distinct(), runs(), least(), greatest()")
    void p53frames() {
        due("one frame", oneFrame(9).digest(),
                sumOf(1, 1, 1, 1, 0, 0, 0, 0, 0, 1, 0, 0, 9, 1, 0, 4, 0, 0, 1, 1, 9, 9));
        sumDue("two frames and more", busy());
        ColdFrame x = busy();
        x.cluster(0, 1);
        x.index(0);
        x.find();
        sumDue("clustered, INDEXED and found", x);
        x.seal();
        x.merge(1);
        sumDue("merged", x);
        sumDue("none ALIVE", killed(busy(), 0, 9));
    }

    @Told(promise = 53, words = "Computes a checksum.")
    void p53changesNothing() {
        ColdFrame x = busy();
        due("the same once more", x.digest(), x.digest());
        due("the same of the same calls", x.digest(), busy().digest());
        changesNothing(ColdFrame::digest);
    }
}
