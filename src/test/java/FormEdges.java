import java.util.Arrays;

/** What the terms tell of forms, zones and bitmaps, and promises 23 to 31. */
final class FormEdges extends Edges {
    private static final int PLAIN = 0;
    private static final int PACKED = 1;
    private static final int RUNS = 2;
    private static final int DICTIONARY = 3;
    private static final int STEPS = 4;

    /** So many rows with a different value each, and the last of them again up to 24 rows. */
    private static Integer[] differing(int distinct) {
        Integer[] values = times(24, distinct * 1000);
        for (int i = 0; i < distinct; i++) {
            values[i] = (i + 1) * 1000;
        }
        return values;
    }

    /** The same with a NULL in place of the last row. */
    private static Integer[] differingAndNull(int distinct) {
        Integer[] values = differing(distinct);
        values[23] = null;
        return values;
    }

    /** Eight rows whose greatest value is so much above the least. */
    private static ColdFrame spread(long range) {
        Integer[] values = times(8, MIN);
        values[3] = (int) (MIN + range);
        return oneFrame(values);
    }

    private static ColdFrame spreadAndNull(long range) {
        Integer[] values = times(8, MIN);
        values[3] = (int) (MIN + range);
        values[5] = null;
        return oneFrame(values);
    }

    /** Nine rows, each with the value of the one ahead of it, but one. */
    private static ColdFrame stepped(long step) {
        int first = step < 0 ? MAX : MIN;
        return oneFrame(joined(times(8, first), (int) (first + step)));
    }

    private static int bytes(ColdFrame x, int form) {
        return x.bytesAs(0, 0, form);
    }

    /** NULL at first, then from 1 on. */
    private static ColdFrame countedWithNulls(int rows, int nulls) {
        Integer[] values = new Integer[rows];
        for (int i = nulls; i < rows; i++) {
            values[i] = i;
        }
        return oneFrame(values);
    }

    // ---- the terms: numbers

    @Told(promise = TERMS, words = "bits(a), for a from 0 on, is the least number of bits b with a below 2 to "
            + "the power of b")
    void t01bits() {
        for (int b = 1; b < 32; b++) {
            due("2 to the power of " + b + ", less 1", bytes(spread((1L << b) - 1), PACKED), 9 + b);
            due("2 to the power of " + b, bytes(spread(1L << b), PACKED), 9 + b + 1);
        }
        due("2 to the power of 32, less 1", bytes(spread((1L << 32) - 1), PACKED), 9 + 32);
    }

    @Told(promise = TERMS, words = "(0 for 0)")
    void t02noBits() {
        due("0", bytes(spread(0), PACKED), 9);
        due("1", bytes(spread(1), PACKED), 9 + 1);
        due("2", bytes(spread(2), PACKED), 9 + 2);
    }

    @Told(promise = TERMS, words = "Where a number could be greater than 32 bits can hold, it is meant as it is")
    void t03wideNumbers() {
        due("least and greatest, 31 bits apart", bytes(oneFrame(-1, MAX - 1), PACKED), 9 + 8);
        due("32 bits apart", bytes(oneFrame(-1, MAX), PACKED), 9 + 8);
        due("32 bits and one for NULL", bytes(spreadAndNull((1L << 32) - 1), PACKED), 9 + 33);
        due("a step of 2 to the power of 30", bytes(stepped(1L << 30), STEPS), 9 + 31);
        due("of 2 to the power of 31", bytes(stepped(1L << 31), STEPS), 9 + 32);
        due("the greatest step", bytes(stepped((1L << 32) - 1), STEPS), 9 + 33);
        due("the greatest step down", bytes(stepped(1 - (1L << 32)), STEPS), 9 + 33);
    }

    // ---- the terms: what is counted

    @Told(promise = TERMS, words = "with n rows (also those not ALIVE)")
    void t04deadRowsCount() {
        ColdFrame x = oneFrame(5, null, 7, 9);
        int ahead = bytes(x, PLAIN);
        for (int r = 0; r < 4; r++) {
            x.delete(r);
            due("n, row " + r + " deleted", bytes(x, PLAIN), ahead);
            due("nulls, row " + r + " deleted", x.nulls(0, 0), 1);
            due("distinct, row " + r + " deleted", x.distinct(0, 0), 3);
            due("least, row " + r + " deleted", x.least(0, 0), 5);
            due("greatest, row " + r + " deleted", x.greatest(0, 0), 9);
            due("runs, row " + r + " deleted", x.runs(0, 0), 4);
        }
    }

    @Told(promise = TERMS, words = "let nulls be how many are NULL")
    void t05nulls() {
        for (int nulls : new int[] {0, 1, 7, 8}) {
            due(nulls + " of 8", countedWithNulls(8, nulls).nulls(0, 0), nulls);
        }
        due("0 is none", oneFrame(0, 0).nulls(0, 0), 0);
    }

    @Told(promise = TERMS, words = "distinct how many different values there are (NULL not counted)")
    void t06distinct() {
        due("none", oneFrame(null, null).distinct(0, 0), 0);
        due("one", oneFrame(0, null, 0).distinct(0, 0), 1);
        due("0 and NULL", oneFrame(null, 0).distinct(0, 0), 1);
        due("two, far from each other", oneFrame(3, 4, 3, 4).distinct(0, 0), 2);
        due("the ends", oneFrame(MIN, MAX, MIN).distinct(0, 0), 2);
        due("64", counted(64, 64).distinct(0, 0), 64);
        for (int distinct : new int[] {15, 16, 17}) {
            due(distinct + " and NULL", oneFrame(differingAndNull(distinct)).distinct(0, 0), distinct);
        }
    }

    @Told(promise = TERMS, words = "least and greatest the least and greatest of these")
    void t07leastAndGreatest() {
        ColdFrame x = oneFrame(3, null, 9, 4);
        due("NULL is not the least", x.least(0, 0), 3);
        due("the greatest in the middle", x.greatest(0, 0), 9);
        ColdFrame y = oneFrame(-4, null, -9);
        due("NULL is not the greatest", y.greatest(0, 0), -4);
        due("the least at the end", y.least(0, 0), -9);
        ColdFrame z = oneFrame(MAX, 0, MIN);
        due("the least int", z.least(0, 0), MIN);
        due("the greatest int", z.greatest(0, 0), MAX);
        due("one value is both", oneFrame(7).least(0, 0), oneFrame(7).greatest(0, 0));
    }

    @Told(promise = TERMS, words = "runs how many rows of neighbours there are with all the same value, or all "
            + "NULL, as long as can be")
    void t08runs() {
        due("one row", oneFrame(5).runs(0, 0), 1);
        due("one NULL", oneFrame((Integer) null).runs(0, 0), 1);
        due("the same value", oneFrame(5, 5, 5, 5).runs(0, 0), 1);
        due("all NULL", oneFrame(null, null, null).runs(0, 0), 1);
        due("the last one is another one", oneFrame(5, 5, 5, 6).runs(0, 0), 2);
        due("the first one is another one", oneFrame(6, 5, 5, 5).runs(0, 0), 2);
        due("none has such a neighbour", oneFrame(5, 6, 5, 6).runs(0, 0), 4);
        due("NULL between", oneFrame(5, null, 5).runs(0, 0), 3);
        due("two NULL between", oneFrame(5, null, null, 5).runs(0, 0), 3);
        due("0 is no NULL", oneFrame(0, null, 0, 0).runs(0, 0), 3);
        due("64", counted(64, 64).runs(0, 0), 64);
        due("the ends", oneFrame(MIN, MAX, MAX).runs(0, 0), 2);
    }

    @Told(promise = TERMS, words = "code = bits(distinct - 1)")
    void t09code() {
        int[][] codes = {
            {1, 0}, {2, 1}, {3, 2}, {4, 2}, {5, 3}, {8, 3}, {9, 4}, {16, 4}, {17, 5},
        };
        for (int[] code : codes) {
            due(code[0] + " values", bytes(oneFrame(differing(code[0])), DICTIONARY),
                    2 + 4 * code[0] + 3 * code[1]);
        }
        due("64 values", bytes(counted(64, 64), DICTIONARY), 2 + 4 * 64 + 8 * 6);
    }

    @Told(promise = TERMS, words = "or bits(distinct), if nulls is not 0")
    void t10codeWithNull() {
        int[][] codes = {
            {1, 1}, {2, 2}, {3, 2}, {4, 3}, {7, 3}, {8, 4}, {15, 4}, {16, 5}, {17, 5},
        };
        for (int[] code : codes) {
            due(code[0] + " values and NULL", bytes(oneFrame(differingAndNull(code[0])), DICTIONARY),
                    2 + 4 * code[0] + 3 * code[1]);
        }
        due("NULL alone", bytes(oneFrame(times(24, null)), DICTIONARY), 2);
    }

    // ---- the terms: forms

    @Told(promise = TERMS, words = "0 PLAIN: 4 * n, and (n + 7) / 8, if nulls is not 0")
    void t11plain() {
        for (int n : new int[] {1, 7, 8, 9, 16, 17, 63, 64}) {
            due(n + " rows", bytes(countedWithNulls(n, 0), PLAIN), 4 * n);
        }
        int[][] marks = {{1, 1}, {7, 1}, {8, 1}, {9, 2}, {16, 2}, {17, 3}, {63, 8}, {64, 8}};
        for (int[] mark : marks) {
            due(mark[0] + " rows, one NULL", bytes(countedWithNulls(mark[0], 1), PLAIN), 4 * mark[0] + mark[1]);
            due(mark[0] + " rows, all NULL", bytes(countedWithNulls(mark[0], mark[0]), PLAIN), 4 * mark[0] + mark[1]);
        }
    }

    @Told(promise = TERMS, words = "1 PACKED, if distinct is not 0")
    void t12packedOfSome() {
        due("none", bytes(oneFrame(null, null), PACKED), -1);
        due("one", bytes(oneFrame(7, 7), PACKED), 9);
        due("one and NULL", bytes(oneFrame(0, null), PACKED), 9 + 1);
    }

    @Told(promise = TERMS, words = "9 + (n * w + 7) / 8, with w = bits(greatest - least)")
    void t13packed() {
        int[][] rounded = {{2, 1}, {7, 1}, {8, 1}, {9, 2}, {16, 2}, {17, 3}, {64, 8}};
        for (int[] r : rounded) {
            Integer[] values = times(r[0], 5);
            values[0] = 6;
            due(r[0] + " rows of one bit", bytes(oneFrame(values), PACKED), 9 + r[1]);
        }
        due("three rows of five bits", bytes(oneFrame(0, 16, 31), PACKED), 9 + 2);
        due("three rows of six bits", bytes(oneFrame(0, 16, 32), PACKED), 9 + 3);
        due("64 rows of 32 bits", bytes(oneFrame(joined(times(63, MIN), MAX)), PACKED), 9 + 256);
        due("below 0", bytes(oneFrame(-100, -101, -99), PACKED), 9 + 1);
    }

    @Told(promise = TERMS, words = "or bits(greatest - least + 1), if nulls is not 0")
    void t14packedWithNull() {
        due("0 apart", bytes(spreadAndNull(0), PACKED), 9 + 1);
        for (int b = 2; b < 32; b++) {
            due("2 to the power of " + b + ", less 2", bytes(spreadAndNull((1L << b) - 2), PACKED), 9 + b);
            due("2 to the power of " + b + ", less 1", bytes(spreadAndNull((1L << b) - 1), PACKED), 9 + b + 1);
        }
        due("the ends, less 1", bytes(spreadAndNull((1L << 32) - 2), PACKED), 9 + 32);
        due("the ends", bytes(spreadAndNull((1L << 32) - 1), PACKED), 9 + 33);
    }

    @Told(promise = TERMS, words = "2 RUNS: 6 * runs")
    void t15runs() {
        due("one", bytes(oneFrame(5, 5), RUNS), 6);
        due("two", bytes(oneFrame(5, 6), RUNS), 12);
        due("NULL is one, too", bytes(oneFrame(5, null, 6), RUNS), 18);
        due("all NULL", bytes(oneFrame(null, null), RUNS), 6);
        due("64", bytes(counted(64, 64), RUNS), 384);
    }

    @Told(promise = TERMS, words = "3 DICTIONARY: 2 + 4 * distinct + (n * code + 7) / 8")
    void t16dictionary() {
        int[][] rounded = {{2, 1}, {7, 1}, {8, 1}, {9, 2}, {16, 2}, {17, 3}, {64, 8}};
        for (int[] r : rounded) {
            Integer[] values = times(r[0], MIN);
            values[0] = MAX;
            due(r[0] + " rows of one bit", bytes(oneFrame(values), DICTIONARY), 2 + 8 + r[1]);
        }
        due("no bit", bytes(oneFrame(7, 7, 7), DICTIONARY), 2 + 4);
        due("no value", bytes(oneFrame(null, null), DICTIONARY), 2);
        due("five rows of three bits", bytes(oneFrame(1, 2, 3, 4, 5), DICTIONARY), 2 + 20 + 2);
    }

    @Told(promise = TERMS, words = "4 STEPS, if nulls is 0")
    void t17stepsWithoutNull() {
        due("none", bytes(oneFrame(1, 2, 3), STEPS), 9 + 1);
        due("one, in front", bytes(oneFrame(null, 2, 3), STEPS), -1);
        due("one, in the middle", bytes(oneFrame(1, null, 3), STEPS), -1);
        due("one, at the end", bytes(oneFrame(1, 2, null), STEPS), -1);
        due("all", bytes(oneFrame((Integer) null), STEPS), -1);
    }

    @Told(promise = TERMS, words = "9 + ((n - 1) * w + 7) / 8, with w = bits(the greatest of f)")
    void t18steps() {
        int[][] rounded = {{2, 1}, {8, 1}, {9, 1}, {10, 2}, {17, 2}, {18, 3}, {64, 8}};
        for (int[] r : rounded) {
            due(r[0] + " rows, steps of one bit", bytes(countedWithNulls(r[0], 0), STEPS), 9 + r[1]);
        }
        due("the greatest one in front", bytes(oneFrame(0, 100, 101, 102), STEPS), 9 + 3);
        due("in the middle", bytes(oneFrame(0, 1, 101, 102), STEPS), 9 + 3);
        due("at the end", bytes(oneFrame(0, 1, 2, 102), STEPS), 9 + 3);
        due("not the sum of all", bytes(oneFrame(0, 100, 0, 100), STEPS), 9 + 3);
        due("64 rows, the greatest", bytes(oneFrame(joined(times(63, MIN), MAX)), STEPS), 9 + (63 * 33 + 7) / 8);
    }

    @Told(promise = TERMS, words = "f for each two neighbours, with d the second one's value less the first one's")
    void t19neighbours() {
        due("far apart, but not neighbours", bytes(oneFrame(0, 1, 2, 3, 4, 5, 6, 7, 8), STEPS), 9 + 1);
        due("up from the first one", bytes(oneFrame(5, 6), STEPS), 9 + 1);
        ColdFrame x = oneFrame(0, 9, 1, 8, 2, 7, 3, 6, 4);
        due("as they were added", bytes(x, STEPS), 9 + 5);
        x.cluster(0, 0);
        due("as they lie", bytes(x, STEPS), 9 + 2);
    }

    @Told(promise = TERMS, words = "2 * d - 1, if d is above 0, otherwise -2 * d")
    void t20upAndDown() {
        due("0", bytes(stepped(0), STEPS), 9);
        due("1 up is 1", bytes(stepped(1), STEPS), 9 + 1);
        due("1 down is 2", bytes(stepped(-1), STEPS), 9 + 2);
        for (int b = 1; b < 32; b++) {
            due(b + " bits up", bytes(stepped(1L << b), STEPS), 9 + b + 1);
            due(b + " bits up and 1", bytes(stepped((1L << b) + 1), STEPS), 9 + b + 2);
            due(b + " bits down, less 1", bytes(stepped(1 - (1L << b)), STEPS), 9 + b + 1);
            due(b + " bits down", bytes(stepped(-(1L << b)), STEPS), 9 + b + 2);
        }
    }

    @Told(promise = TERMS, words = "(w is 0, if n is 1)")
    void t21oneRow() {
        due("one row", bytes(oneFrame(MAX), STEPS), 9);
        due("two rows", bytes(oneFrame(MAX, MIN), STEPS), 9 + 5);
    }

    // ---- the terms: which form, and when

    private void formDue(int form, Integer... values) {
        ColdFrame x = oneFrame(values);
        due("form, " + Arrays.toString(values), x.formOf(0, 0), form);
        due("bytes, " + Arrays.toString(values), x.bytes(0), bytes(x, form));
    }

    /** The other form takes one byte more. */
    private void fewer(int form, int other, Integer... values) {
        ColdFrame x = oneFrame(values);
        due("one byte more, " + Arrays.toString(values), bytes(x, other), bytes(x, form) + 1);
        formDue(form, values);
    }

    /** The other form takes as many. */
    private void asFew(int form, int other, Integer... values) {
        ColdFrame x = oneFrame(values);
        due("as few bytes, " + Arrays.toString(values), bytes(x, other), bytes(x, form));
        formDue(form, values);
    }

    @Told(promise = TERMS, words = "The form of the column is the one with the fewest bytes")
    void t22fewestBytes() {
        fewer(PLAIN, DICTIONARY, 0, 0, 1, 2, 100, MAX);
        fewer(PLAIN, STEPS, 2520, 6475, 6561);
        fewer(PACKED, RUNS, joined(times(8, 0), joined(times(7, -5), times(5, 1))));
        fewer(PACKED, DICTIONARY, null, 0, 1);
        fewer(PACKED, STEPS, 0, 1, 2, 0);
        fewer(RUNS, PACKED, joined(times(11, 4), joined(times(10, -2), times(4, 5))));
        fewer(RUNS, DICTIONARY, joined(times(11, 202), times(6, -124)));
        fewer(RUNS, STEPS, joined(times(12, -3), joined(times(8, 2), 5)));
        fewer(DICTIONARY, PLAIN, 0, 40000, 0);
        fewer(DICTIONARY, PACKED, null, 0, 100);
        fewer(DICTIONARY, RUNS, 0, 0, 0, 40000);
        fewer(DICTIONARY, STEPS, 0, 0, 100, 0);
        fewer(STEPS, PLAIN, 996510, 1034265, 1272361, 1714068, 1922271);
        fewer(STEPS, PACKED, 3, 4, 8);
        fewer(STEPS, DICTIONARY, -1988, 1622, 1622, 4273);
    }

    @Told(promise = TERMS, words = "of several the one with the smallest number")
    void t23smallestNumber() {
        asFew(PLAIN, PACKED, 0, 100, -70);
        asFew(PLAIN, DICTIONARY, 0, 0, 1, 2, MAX);
        asFew(PLAIN, STEPS, 94, 374, 468);
        asFew(PACKED, RUNS, joined(times(5, 5), joined(times(7, -4), times(5, -2))));
        asFew(PACKED, DICTIONARY, null, 4, 9);
        asFew(PACKED, STEPS, 0, 0, 1);
        asFew(RUNS, DICTIONARY, 0, 0);
        asFew(RUNS, STEPS, joined(new Integer[] {-5, 2, 2, 2}, times(15, 3)));
        asFew(DICTIONARY, STEPS, 0, 0, 100);
    }

    /** Column 0 is PACKED, and would be RUNS without its last row, which is number 3. */
    private static ColdFrame threeAndOne() {
        return oneColumn(4, 7, 7, 7, 8);
    }

    private void zoneDue(String what, ColdFrame x, int... due) {
        int[] zone = {x.nulls(0, 0), x.distinct(0, 0), x.least(0, 0), x.greatest(0, 0), x.formOf(0, 0)};
        due(what, Arrays.toString(zone), Arrays.toString(due));
    }

    @Told(promise = TERMS, words = "ZONE of a column of a frame: nulls, distinct, least and greatest, as above.")
    void t24zone() {
        zoneDue("of four rows", threeAndOne(), 0, 2, 7, 8, PACKED);
        zoneDue("of NULL alone", oneFrame(null, null), 2, 0, 0, 0, DICTIONARY);
        zoneDue("of one row", oneFrame(MIN), 0, 1, MIN, MIN, PLAIN);
    }

    @Told(promise = TERMS, words = "It is reckoned, and the form chosen, whenever a frame is made, clustered or merged")
    void t25reckoned() {
        ColdFrame x = oneColumn(5, 7, 7, 7, 8);
        x.delete(3);
        x.setSize(4);
        zoneDue("made as the SIZE is set", x, 0, 1, 7, 7, RUNS);
        ColdFrame y = oneColumn(5, 7, 7, 7, 8);
        y.seal();
        zoneDue("made as it is sealed", y, 0, 2, 7, 8, PACKED);
        y.delete(3);
        y.cluster(0, 0);
        zoneDue("clustered", y, 0, 1, 7, 7, RUNS);
        row(y, (Integer) null);
        row(y, 9);
        y.seal();
        y.merge(0);
        zoneDue("merged", y, 1, 2, 7, 9, PACKED);
        y.delete(4);
        row(y, 7);
        y.seal();
        y.merge(0);
        zoneDue("merged without a dead one", y, 0, 2, 7, 9, PACKED);
    }

    @Told(promise = TERMS, words = "but not as rows are deleted")
    void t26notReckoned() {
        ColdFrame x = threeAndOne();
        x.delete(3);
        zoneDue("the greatest one deleted", x, 0, 2, 7, 8, PACKED);
        due("bytes", x.bytes(0), 10);
        due("runs", x.runs(0, 0), 2);
        killed(x, 0, 2);
        zoneDue("all deleted", x, 0, 2, 7, 8, PACKED);
        ColdFrame y = threeAndOne();
        y.change(3, 0, 7);
        zoneDue("changed", y, 0, 2, 7, 8, PACKED);
        ColdFrame z = oneFrame(5, null);
        z.delete(1);
        zoneDue("the only NULL deleted", z, 1, 1, 5, 5, DICTIONARY);
    }

    // ---- the terms: bitmaps

    private static int bitmaps(ColdFrame x) {
        x.index(0);
        return x.bitmapBytes();
    }

    @Told(promise = TERMS, words = "A column may be INDEXED")
    void t27indexed() {
        ColdFrame x = oneFrame(5, 6);
        due("not at first", x.bitmapBytes(), 0);
        due("INDEXED", bitmaps(x), 2);
        due("not any more", bitmaps(x), 0);
    }

    @Told(promise = TERMS, words = "each frame in which distinct is 1 to 16 has a bitmap for each different "
            + "value of it")
    void t28bitmaps() {
        due("no value", bitmaps(oneFrame(null, null)), 0);
        due("one value", bitmaps(oneFrame(0, 0)), 1);
        due("one value and NULL", bitmaps(oneFrame(0, null)), 1);
        for (int distinct = 2; distinct <= 16; distinct++) {
            due(distinct + " values", bitmaps(oneFrame(differing(distinct))), 3 * distinct);
            due(distinct + " values and NULL", bitmaps(oneFrame(differingAndNull(distinct))), 3 * distinct);
        }
        due("17 values", bitmaps(oneFrame(differing(17))), 0);
        due("17 values and NULL", bitmaps(oneFrame(differingAndNull(17))), 0);
        due("64 values", bitmaps(counted(64, 64)), 0);
        due("none in the BUFFER", bitmaps(counted(64, 3)), 0);
    }

    @Told(promise = TERMS, words = "of (n + 7) / 8 bytes each")
    void t29bytesOfBitmaps() {
        int[][] rounded = {{1, 1}, {7, 1}, {8, 1}, {9, 2}, {16, 2}, {17, 3}, {56, 7}, {57, 8}, {64, 8}};
        for (int[] r : rounded) {
            due(r[0] + " rows", bitmaps(oneFrame(times(r[0], 4))), r[1]);
        }
        ColdFrame x = killed(oneFrame(times(9, 4)), 0, 7);
        due("not ALIVE", bitmaps(x), 2);
        x.cluster(0, 0);
        due("clustered", x.bitmapBytes(), 1);
    }

    // ---- 23 to 26

    @Told(promise = 23, words = "Returns its form, 0 to 4.")
    void p23form() {
        due("PLAIN", oneFrame(0, 1000).formOf(0, 0), 0);
        due("PACKED", oneFrame(0, 0, 1).formOf(0, 0), 1);
        due("RUNS", oneFrame(0, 0).formOf(0, 0), 2);
        due("DICTIONARY", oneFrame(0, 0, 100).formOf(0, 0), 3);
        due("STEPS", oneFrame(3, 4, 8).formOf(0, 0), 4);
    }

    @Told(promise = 23, words = "Throws `IndexOutOfBoundsException` if there is no such frame or column")
    void p23noFrameOrColumn() {
        noFrameOrColumn(ColdFrame::formOf);
    }

    /** A call of a column of a frame. */
    private interface AskedThere {
        Object of(ColdFrame x, int frame, int column);
    }

    private void noFrameOrColumn(AskedThere call) {
        onlyFrom(0, 1, BOUNDS, Scene::busy, (x, frame) -> call.of(x, frame, 1));
        onlyFrom(0, 1, BOUNDS, Scene::busy, (x, column) -> call.of(x, 1, column));
        onlyFrom(0, 7, BOUNDS, FormEdges::eightColumns, (x, column) -> call.of(x, 0, column));
        none(BOUNDS, () -> counted(4, 3), (x, frame) -> call.of(x, frame, 0));
        none(BOUNDS, ColdFrame::new, (x, column) -> call.of(x, 0, column));
        refused("neither", BOUNDS, Scene::busy, x -> call.of(x, 2, 2));
        refused("a frame that is gone", BOUNDS, FormEdges::goneFrame, x -> call.of(x, 1, 0));
    }

    private static ColdFrame eightColumns() {
        ColdFrame x = store(8, 4);
        row(x, 1, 2, 3, 4, 5, 6, 7, 8);
        x.seal();
        return x;
    }

    private static ColdFrame goneFrame() {
        ColdFrame x = killed(counted(4, 8), 4, 7);
        x.cluster(1, 0);
        return x;
    }

    @Told(promise = 24, words = "Returns how many bytes it would take in that form")
    void p24bytes() {
        int[] due = {12, 9 + 1, 12, 2 + 8 + 1, 9 + 1};
        for (int form = 0; form < 5; form++) {
            due("form " + form, bytes(oneFrame(4, 4, 5), form), due[form]);
        }
    }

    @Told(promise = 24, words = "-1 if it cannot have it.")
    void p24cannot() {
        due("PACKED without a value", bytes(oneFrame((Integer) null), PACKED), -1);
        due("PACKED with one", bytes(oneFrame(null, 5), PACKED), 9 + 1);
        due("STEPS with a NULL", bytes(oneFrame(5, null), STEPS), -1);
        due("STEPS without", bytes(oneFrame(5, 5), STEPS), 9);
        for (int form : new int[] {PLAIN, RUNS, DICTIONARY}) {
            due("the others always", bytes(oneFrame((Integer) null), form) > 0, true);
        }
    }

    @Told(promise = 24, words = "Throws `IndexOutOfBoundsException` if there is no such frame or column")
    void p24noFrameOrColumn() {
        noFrameOrColumn((x, frame, column) -> x.bytesAs(frame, column, 0));
        refused("no frame and no form", BOUNDS, Scene::busy, x -> x.bytesAs(2, 0, 5));
        refused("no column and no form", BOUNDS, Scene::busy, x -> x.bytesAs(0, 2, -1));
    }

    @Told(promise = 24, words = "Throws `IllegalArgumentException` if form is not 0 to 4")
    void p24form() {
        onlyFrom(0, 4, ARGUMENT, Scene::busy, (x, form) -> x.bytesAs(1, 1, form));
    }

    @Told(promise = 25, words = "the sum of all its columns in their forms")
    void p25sum() {
        due("one column", oneFrame(7, 7).bytes(0), 6);
        // PLAIN 4, and for NULL alone a DICTIONARY's 2.
        ColdFrame x = store(8, 4);
        row(x, 1, 2, 3, 4, null, 6, 7, 8);
        x.seal();
        due("eight columns", x.bytes(0), 7 * 4 + 2);
        row(x, 1);
        x.seal();
        due("of this frame alone", x.bytes(1), 4 + 7 * 2);
    }

    @Told(promise = 25, words = "without bitmaps")
    void p25withoutBitmaps() {
        ColdFrame x = oneFrame(7, 7);
        due("bitmaps", bitmaps(x), 1);
        due("without", x.bytes(0), 6);
    }

    @Told(promise = 25, words = "Throws `IndexOutOfBoundsException` if there is no such frame")
    void p25noFrame() {
        onlyFrom(0, 1, BOUNDS, Scene::busy, (x, frame) -> x.bytes(frame));
        none(BOUNDS, () -> counted(4, 3), (x, frame) -> x.bytes(frame));
    }

    @Told(promise = 26, words = "Returns how many bytes all bitmaps take.")
    void p26all() {
        ColdFrame x = store(2, 4);
        due("no frame", x.bitmapBytes(), 0);
        for (int i = 0; i < 9; i++) {
            row(x, i % 2, i);
        }
        due("no column is INDEXED", x.bitmapBytes(), 0);
        due("two frames", bitmaps(x), 2 + 2);
        x.index(1);
        due("two columns", x.bitmapBytes(), 2 + 2 + 4 + 4);
        due("the second one alone", bitmaps(x), 8);
        killed(x, 0, 3);
        due("not ALIVE", x.bitmapBytes(), 8);
        x.cluster(0, 0);
        due("one frame is gone", x.bitmapBytes(), 4);
    }

    // ---- 27 to 31

    @Told(promise = 27, words = "Returns nulls.")
    void p27nulls() {
        for (int nulls : new int[] {0, 1, 63, 64}) {
            due(nulls + " of 64", countedWithNulls(64, nulls).nulls(0, 0), nulls);
        }
    }

    @Told(promise = 27, words = "Throws `IndexOutOfBoundsException` if there is no such frame or column")
    void p27noFrameOrColumn() {
        noFrameOrColumn(ColdFrame::nulls);
    }

    @Told(promise = 28, words = "Returns distinct.")
    void p28distinct() {
        due("none", countedWithNulls(64, 64).distinct(0, 0), 0);
        due("one", countedWithNulls(64, 63).distinct(0, 0), 1);
        due("63", countedWithNulls(64, 1).distinct(0, 0), 63);
        due("64", countedWithNulls(64, 0).distinct(0, 0), 64);
    }

    @Told(promise = 28, words = "Throws `IndexOutOfBoundsException` if there is no such frame or column")
    void p28noFrameOrColumn() {
        noFrameOrColumn(ColdFrame::distinct);
    }

    @Told(promise = 29, words = "Returns runs.")
    void p29runs() {
        due("one", countedWithNulls(64, 64).runs(0, 0), 1);
        due("two", countedWithNulls(64, 63).runs(0, 0), 2);
        due("64", countedWithNulls(64, 1).runs(0, 0), 64);
        ColdFrame x = oneFrame(1, 2, 1, 2);
        x.cluster(0, 0);
        due("clustered", x.runs(0, 0), 2);
    }

    @Told(promise = 29, words = "Throws `IndexOutOfBoundsException` if there is no such frame or column")
    void p29noFrameOrColumn() {
        noFrameOrColumn(ColdFrame::runs);
    }

    @Told(promise = 30, words = "Returns least")
    void p30least() {
        due("the least int", oneFrame(0, MIN, MAX).least(0, 0), MIN);
        due("the greatest int", oneFrame(MAX, MAX).least(0, 0), MAX);
        due("above 0, with NULL", oneFrame(3, null, 2).least(0, 0), 2);
    }

    @Told(promise = 30, words = "0 if all are NULL.")
    void p30null() {
        due("all", oneFrame(null, null).least(0, 0), 0);
        due("all but one", oneFrame(null, 5).least(0, 0), 5);
        ColdFrame x = oneFrame(null, 5);
        x.delete(1);
        x.cluster(0, 0);
        due("all that are left", x.least(0, 0), 0);
    }

    @Told(promise = 30, words = "Throws `IndexOutOfBoundsException` if there is no such frame or column")
    void p30noFrameOrColumn() {
        noFrameOrColumn(ColdFrame::least);
    }

    @Told(promise = 31, words = "Returns greatest")
    void p31greatest() {
        due("the greatest int", oneFrame(0, MAX, MIN).greatest(0, 0), MAX);
        due("the least int", oneFrame(MIN, MIN).greatest(0, 0), MIN);
        due("below 0, with NULL", oneFrame(-3, null, -2).greatest(0, 0), -2);
    }

    @Told(promise = 31, words = "0 if all are NULL.")
    void p31null() {
        due("all", oneFrame(null, null).greatest(0, 0), 0);
        due("all but one", oneFrame(null, -5).greatest(0, 0), -5);
        ColdFrame x = oneFrame(null, -5);
        x.delete(1);
        x.cluster(0, 0);
        due("all that are left", x.greatest(0, 0), 0);
    }

    @Told(promise = 31, words = "Throws `IndexOutOfBoundsException` if there is no such frame or column")
    void p31noFrameOrColumn() {
        noFrameOrColumn(ColdFrame::greatest);
    }
}
