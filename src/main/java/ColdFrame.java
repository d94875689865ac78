import java.util.ArrayList;

/** A store of one table, column by column. */
public final class ColdFrame {
    private static final int MOST_COLUMNS = 8;
    private static final int MOST_ROWS = 600;
    private static final int MOST_IN_FRAME = 64;
    private static final int LEAST_SIZE = 4;
    private static final int FIRST_SIZE = 32;
    private static final int MOST_BITMAPS = 16;
    private static final int MOST_GROUPS = 4;
    private static final int MOST_CONDITIONS = 4;
    private static final int ACCOUNTS = 5;

    private static final int IN_BUFFER = -1;
    private static final int IN_NONE = -2;

    private static final int PLAIN = 0;
    private static final int PACKED = 1;
    private static final int RUNS = 2;
    private static final int DICTIONARY = 3;
    private static final int STEPS = 4;
    private static final int FORMS = 5;

    private static final int IS = 0;
    private static final int IS_NOT = 1;
    private static final int LESS = 2;
    private static final int NOT_MORE = 3;
    private static final int MORE = 4;
    private static final int NOT_LESS = 5;
    private static final int IS_NULL = 6;
    private static final int IS_NOT_NULL = 7;
    private static final int TESTS = 8;

    private static final int NONE = 0;
    private static final int ALL = 1;
    private static final int BITMAPS = 2;
    private static final int BY_RUNS = 3;
    private static final int BY_CODES = 4;
    private static final int BY_VALUES = 5;

    private static final long DIGEST_START = 58023L;

    private final Table table = new Table();
    private final Query query = new Query();
    private final Search search = new Search();
    private final Result result = new Result();
    private int latestCost;
    private int latestPassed;

    public ColdFrame() {
    }

    // ---- columns and rows

    public int addColumn() throws IllegalStateException {
        if (table.columns.size() >= MOST_COLUMNS) {
            throw new IllegalStateException("there are 8 columns");
        }
        if (table.rowCount > 0) {
            throw new IllegalStateException("a row was added");
        }
        table.columns.add(new Column());
        return table.columns.size() - 1;
    }

    public int give(int column, int value) throws IndexOutOfBoundsException {
        needColumn(column);
        table.columns.get(column).giveNext(value);
        return table.givenColumns();
    }

    public int add() throws IllegalStateException {
        if (table.columns.isEmpty()) {
            throw new IllegalStateException("there are no columns");
        }
        needRoom();
        int row = table.appendGiven();
        table.sealIfFull();
        return row;
    }

    public boolean delete(int row) throws IndexOutOfBoundsException {
        needRow(row);
        return table.kill(row);
    }

    public int change(int row, int column, int value)
            throws IndexOutOfBoundsException, IllegalStateException {
        needRow(row);
        needColumn(column);
        if (!table.isLiving[row]) {
            throw new IllegalStateException("the row is not alive");
        }
        needRoom();
        int changed = table.appendChanged(row, column, value);
        table.sealIfFull();
        return changed;
    }

    public int setSize(int size) throws IllegalArgumentException {
        if (size < LEAST_SIZE || size > MOST_IN_FRAME) {
            throw new IllegalArgumentException("the size is not 4 to 64");
        }
        int before = table.size;
        table.size = size;
        table.sealIfFull();
        return before;
    }

    public int seal() throws IllegalStateException {
        if (table.buffer.count == 0) {
            throw new IllegalStateException("the buffer has no rows");
        }
        return table.sealBuffer();
    }

    // ---- frames

    public int cluster(int frame, int column) throws IndexOutOfBoundsException {
        needFrame(frame);
        needColumn(column);
        return table.clusterBy(frame, column);
    }

    public int merge(int frame) throws IndexOutOfBoundsException, IllegalStateException {
        needFrame(frame);
        if (frame >= table.frames.size() - 1) {
            throw new IndexOutOfBoundsException("no frame is behind it");
        }
        if (table.livingIn(frame) + table.livingIn(frame + 1) > MOST_IN_FRAME) {
            throw new IllegalStateException("one frame takes at most 64 rows");
        }
        return table.mergeNext(frame);
    }

    public boolean index(int column) throws IndexOutOfBoundsException {
        needColumn(column);
        Column indexed = table.columns.get(column);
        indexed.isIndexed = !indexed.isIndexed;
        return indexed.isIndexed;
    }

    // ---- the table, asked

    public int columns() {
        return table.columns.size();
    }

    public int rows() {
        return table.rowCount;
    }

    public int alive() {
        return table.livingCount;
    }

    public int frames() {
        return table.frames.size();
    }

    public int inBuffer() {
        return table.buffer.count;
    }

    public boolean isAlive(int row) throws IndexOutOfBoundsException {
        needRow(row);
        return table.isLiving[row];
    }

    public boolean isNull(int row, int column) throws IndexOutOfBoundsException {
        needRow(row);
        needColumn(column);
        return table.columns.get(column).lacks[row];
    }

    public int valueOf(int row, int column) throws IndexOutOfBoundsException {
        needRow(row);
        needColumn(column);
        return table.columns.get(column).values[row];
    }

    public int frameOf(int row) throws IndexOutOfBoundsException {
        needRow(row);
        return table.home[row];
    }

    public int rowsIn(int frame) throws IndexOutOfBoundsException {
        needFrame(frame);
        return table.frames.get(frame).count;
    }

    public int rowAt(int frame, int place) throws IndexOutOfBoundsException {
        needFrame(frame);
        Block block = table.frames.get(frame);
        if (place < 0 || place >= block.count) {
            throw new IndexOutOfBoundsException("no such place in the frame");
        }
        return block.rows[place];
    }

    // ---- forms and zones

    public int formOf(int frame, int column) throws IndexOutOfBoundsException {
        return zoneOf(frame, column).form;
    }

    public int bytesAs(int frame, int column, int form)
            throws IndexOutOfBoundsException, IllegalArgumentException {
        Zone zone = zoneOf(frame, column);
        if (form < 0 || form >= FORMS) {
            throw new IllegalArgumentException("the form is not 0 to 4");
        }
        return zone.bytesIn(form);
    }

    public int bytes(int frame) throws IndexOutOfBoundsException {
        needFrame(frame);
        return table.frames.get(frame).byteCount;
    }

    public int bitmapBytes() {
        return table.bytesOfBitmaps();
    }

    public int nulls(int frame, int column) throws IndexOutOfBoundsException {
        return zoneOf(frame, column).nullCount;
    }

    public int distinct(int frame, int column) throws IndexOutOfBoundsException {
        return zoneOf(frame, column).distinctCount;
    }

    public int runs(int frame, int column) throws IndexOutOfBoundsException {
        return zoneOf(frame, column).runCount;
    }

    public int least(int frame, int column) throws IndexOutOfBoundsException {
        return zoneOf(frame, column).low;
    }

    public int greatest(int frame, int column) throws IndexOutOfBoundsException {
        return zoneOf(frame, column).high;
    }

    // ---- conditions and searches

    public int where(int column, int test, int value)
            throws IndexOutOfBoundsException, IllegalArgumentException, IllegalStateException {
        needColumn(column);
        if (test < 0 || test >= TESTS) {
            throw new IllegalArgumentException("the test is not 0 to 7");
        }
        if (query.latest().count >= MOST_CONDITIONS) {
            throw new IllegalStateException("the group has 4 conditions");
        }
        return query.latest().state(column, test, value);
    }

    public int orElse() throws IllegalStateException {
        if (query.count >= MOST_GROUPS) {
            throw new IllegalStateException("there are 4 groups");
        }
        if (query.latest().count == 0) {
            throw new IllegalStateException("the latest group is empty");
        }
        return query.begin();
    }

    public int clear() {
        int before = query.conditionCount();
        query.reset();
        return before;
    }

    public int find() {
        search.run(table, query, true);
        latestCost = search.cost;
        latestPassed = search.passedCount;
        result.take(search.rows, search.count);
        return result.count;
    }

    public int cost() {
        return latestCost;
    }

    public int passed() {
        return latestPassed;
    }

    public int guess(int group, int place, int frame) throws IndexOutOfBoundsException {
        Condition condition = conditionAt(group, place);
        return condition.guessIn(zoneOf(frame, condition.column));
    }

    public int method(int group, int place, int frame) throws IndexOutOfBoundsException {
        Condition condition = conditionAt(group, place);
        Zone zone = zoneOf(frame, condition.column);
        return condition.methodIn(zone, table.columns.get(condition.column).isIndexed);
    }

    // ---- the result

    public int found() {
        return result.count;
    }

    public int foundAt(int place) throws IndexOutOfBoundsException {
        if (place < 0 || place >= result.count) {
            throw new IndexOutOfBoundsException("the result has no such place");
        }
        return result.rows[place];
    }

    public int sort(int column, boolean isFalling) throws IndexOutOfBoundsException {
        needColumn(column);
        table.sorter.arrange(result.rows, result.count, table.columns.get(column), isFalling, false);
        return result.count == 0 ? -1 : result.rows[0];
    }

    public int limit(int most) throws IllegalArgumentException {
        if (most < 0) {
            throw new IllegalArgumentException("the limit is less than 0");
        }
        result.count = Math.min(result.count, most);
        return result.count;
    }

    public int sum(int column) throws IndexOutOfBoundsException {
        needColumn(column);
        return (int) result.total(table.columns.get(column));
    }

    public double mean(int column) throws IndexOutOfBoundsException {
        needColumn(column);
        return result.average(table.columns.get(column));
    }

    public int groups(int column) throws IndexOutOfBoundsException {
        needColumn(column);
        result.arrangeGroups(table.columns.get(column), table.sorter);
        return result.groupCount;
    }

    public int ofGroup(int column, int group, int of, int account)
            throws IndexOutOfBoundsException, IllegalArgumentException {
        needColumn(column);
        needColumn(of);
        Column by = table.columns.get(column);
        result.arrangeGroups(by, table.sorter);
        if (group < 0 || group >= result.groupCount) {
            throw new IndexOutOfBoundsException("no such group");
        }
        if (account < 0 || account >= ACCOUNTS) {
            throw new IllegalArgumentException("the account is not 0 to 4");
        }
        return result.accountOf(group, by, table.columns.get(of), account);
    }

    public int keep() {
        return result.keepRows();
    }

    public int pairs(int column, int other) throws IndexOutOfBoundsException {
        needColumn(column);
        needColumn(other);
        return result.pairCount(table.columns.get(column), table.columns.get(other));
    }

    // ---- what would be (nothing is changed)

    public int costWithout() {
        search.run(table, query, false);
        return search.cost;
    }

    public int wouldFind() {
        search.run(table, query, true);
        return search.count;
    }

    public int bestCluster(int frame) throws IndexOutOfBoundsException {
        needFrame(frame);
        return table.bestColumn(frame);
    }

    public long digest() {
        return digestOfFrames(digestOfRows(digestOfCounts(DIGEST_START)));
    }

    // ---- what the calls share

    private void needColumn(int column) {
        if (column < 0 || column >= table.columns.size()) {
            throw new IndexOutOfBoundsException("no such column");
        }
    }

    private void needRow(int row) {
        if (row < 0 || row >= table.rowCount) {
            throw new IndexOutOfBoundsException("no such row");
        }
    }

    private void needFrame(int frame) {
        if (frame < 0 || frame >= table.frames.size()) {
            throw new IndexOutOfBoundsException("no such frame");
        }
    }

    private void needRoom() {
        if (table.rowCount >= MOST_ROWS) {
            throw new IllegalStateException("600 rows were added");
        }
    }

    private Zone zoneOf(int frame, int column) {
        needFrame(frame);
        needColumn(column);
        return table.frames.get(frame).zones[column];
    }

    private Condition conditionAt(int group, int place) {
        if (group < 0 || group >= query.count) {
            throw new IndexOutOfBoundsException("no such group");
        }
        Group asked = query.groups[group];
        if (place < 0 || place >= asked.count) {
            throw new IndexOutOfBoundsException("no such condition in the group");
        }
        return asked.conditions[place];
    }

    private static long mixed(long digest, long next) {
        return digest * 31 + next;
    }

    private long digestOfCounts(long digest) {
        long d = mixed(digest, table.columns.size());
        d = mixed(d, table.rowCount);
        d = mixed(d, table.livingCount);
        d = mixed(d, table.frames.size());
        d = mixed(d, table.buffer.count);
        d = mixed(d, table.bytesOfBitmaps());
        d = mixed(d, latestCost);
        d = mixed(d, latestPassed);
        d = mixed(d, result.count);
        for (int i = 0; i < result.count; i++) {
            d = mixed(d, result.rows[i]);
        }
        return d;
    }

    private long digestOfRows(long digest) {
        long d = digest;
        for (int row = 0; row < table.rowCount; row++) {
            d = mixed(d, table.isLiving[row] ? 1 : 0);
            d = mixed(d, table.home[row]);
            for (int c = 0; c < table.columns.size(); c++) {
                Column column = table.columns.get(c);
                d = mixed(d, column.lacks[row] ? 1 : 0);
                d = mixed(d, column.values[row]);
            }
        }
        return d;
    }

    private long digestOfFrames(long digest) {
        long d = digest;
        for (int f = 0; f < table.frames.size(); f++) {
            Block frame = table.frames.get(f);
            d = mixed(d, frame.count);
            for (int i = 0; i < frame.count; i++) {
                d = mixed(d, frame.rows[i]);
            }
            d = mixed(d, frame.byteCount);
            for (int c = 0; c < table.columns.size(); c++) {
                d = digestOfZone(d, frame.zones[c]);
            }
        }
        return d;
    }

    private static long digestOfZone(long digest, Zone zone) {
        long d = mixed(digest, zone.form);
        d = mixed(d, zone.nullCount);
        d = mixed(d, zone.distinctCount);
        d = mixed(d, zone.runCount);
        d = mixed(d, zone.low);
        return mixed(d, zone.high);
    }

    /** One column: its value in every row, and the one that the next row was given. */
    private static final class Column {
        // A NULL has the value 0, because that is what valueOf() answers for it.
        final int[] values = new int[MOST_ROWS];
        final boolean[] lacks = new boolean[MOST_ROWS];
        boolean isIndexed;
        boolean isGiven;
        private int given;

        void giveNext(int value) {
            given = value;
            isGiven = true;
        }

        void takeGiven(int row) {
            values[row] = isGiven ? given : 0;
            lacks[row] = !isGiven;
            isGiven = false;
        }

        void put(int row, int value) {
            values[row] = value;
            lacks[row] = false;
        }

        void copy(int from, int to) {
            values[to] = values[from];
            lacks[to] = lacks[from];
        }

        boolean isSame(int row, int other) {
            return lacks[row] == lacks[other] && values[row] == values[other];
        }
    }

    /** Orders row numbers by a column; those with the same value stay as they were. */
    private static final class Sorter {
        // Greater than every value is, so that NULL comes behind, or with a minus ahead of, all.
        private static final long NULL_KEY = 1L << 40;

        // By row number, not by place, so that moving a row moves no key.
        private final long[] keys = new long[MOST_ROWS];
        private final int[] spare = new int[MOST_ROWS];

        void arrange(int[] rows, int count, Column column, boolean isFalling, boolean isNullFirst) {
            for (int i = 0; i < count; i++) {
                int row = rows[i];
                long value = column.values[row];
                keys[row] = column.lacks[row]
                        ? (isNullFirst ? -NULL_KEY : NULL_KEY)
                        : (isFalling ? -value : value);
            }
            for (int width = 1; width < count; width *= 2) {
                for (int start = 0; start < count; start += 2 * width) {
                    int middle = Math.min(start + width, count);
                    join(rows, start, middle, Math.min(middle + width, count));
                }
                System.arraycopy(spare, 0, rows, 0, count);
            }
        }

        private void join(int[] rows, int start, int middle, int end) {
            int left = start;
            int right = middle;
            for (int to = start; to < end; to++) {
                boolean isLeft = right >= end
                        || (left < middle && keys[rows[left]] <= keys[rows[right]]);
                spare[to] = isLeft ? rows[left++] : rows[right++];
            }
        }
    }

    /** What is known of one column of a frame, and the form that it has there. */
    private static final class Zone {
        int count;
        int nullCount;
        int distinctCount;
        int runCount;
        int low;
        int high;
        int form;
        // The different values by which a row can be told apart in bitmaps, as many as these may be.
        private final int[] values = new int[MOST_BITMAPS];
        private long greatestStep;

        /** The rows as they are in the frame, and the same ones, sorted, NULL first. */
        void reckon(Column column, int[] rows, int[] sorted, int rowCount) {
            count = rowCount;
            countValues(column, sorted);
            countRuns(column, rows);
            boolean hasValues = nullCount < count;
            low = hasValues ? column.values[sorted[nullCount]] : 0;
            high = hasValues ? column.values[sorted[count - 1]] : 0;
            form = PLAIN;
            for (int other = PACKED; other < FORMS; other++) {
                int needed = bytesIn(other);
                if (needed >= 0 && needed < bytesIn(form)) {
                    form = other;
                }
            }
        }

        private void countValues(Column column, int[] sorted) {
            nullCount = 0;
            distinctCount = 0;
            for (int i = 0; i < count; i++) {
                if (column.lacks[sorted[i]]) {
                    nullCount++;
                } else if (i == 0 || !column.isSame(sorted[i - 1], sorted[i])) {
                    if (distinctCount < MOST_BITMAPS) {
                        values[distinctCount] = column.values[sorted[i]];
                    }
                    distinctCount++;
                }
            }
        }

        private void countRuns(Column column, int[] rows) {
            runCount = count == 0 ? 0 : 1;
            greatestStep = 0;
            for (int i = 1; i < count; i++) {
                if (!column.isSame(rows[i - 1], rows[i])) {
                    runCount++;
                }
                long rise = (long) column.values[rows[i]] - column.values[rows[i - 1]];
                greatestStep = Math.max(greatestStep, rise > 0 ? 2 * rise - 1 : -2 * rise);
            }
        }

        /** -1 if the column cannot have the form. */
        int bytesIn(int asked) {
            switch (asked) {
                case PLAIN:
                    return 4 * count + (nullCount == 0 ? 0 : bytesFor(count));
                case PACKED:
                    return distinctCount == 0 ? -1 : 9 + bytesFor(count * widthFor((long) high - low));
                case RUNS:
                    return 6 * runCount;
                case DICTIONARY:
                    return 2 + 4 * distinctCount + bytesFor(count * widthFor(distinctCount - 1));
                case STEPS:
                    return nullCount != 0 ? -1 : 9 + bytesFor((count - 1) * bits(greatestStep));
                default:
                    return -1;
            }
        }

        /** The bits for a number from 0 to the greatest one, and for NULL, if there is any. */
        private int widthFor(long greatestNumber) {
            return bits(nullCount == 0 ? greatestNumber : greatestNumber + 1);
        }

        private static int bytesFor(int bitCount) {
            return (bitCount + 7) / 8;
        }

        private static int bits(long number) {
            int needed = 0;
            while (needed < 62 && number >> needed > 0) {
                needed++;
            }
            return needed;
        }

        boolean hasBitmaps() {
            return distinctCount >= 1 && distinctCount <= MOST_BITMAPS;
        }

        int bytesOfBitmaps() {
            return hasBitmaps() ? distinctCount * bytesFor(count) : 0;
        }

        int bitmapsFor(Condition condition) {
            int needed = 0;
            for (int i = 0; i < distinctCount && i < MOST_BITMAPS; i++) {
                if (condition.isMetBy(false, values[i])) {
                    needed++;
                }
            }
            return needed;
        }
    }

    /** Rows in an order: a frame, or the BUFFER, which is one that is not reckoned yet. */
    private static final class Block {
        final int[] rows = new int[MOST_IN_FRAME];
        final Zone[] zones = new Zone[MOST_COLUMNS];
        int count;
        int byteCount;

        Block() {
            for (int c = 0; c < MOST_COLUMNS; c++) {
                zones[c] = new Zone();
            }
        }

        void append(int row) {
            if (count < MOST_IN_FRAME) {
                rows[count] = row;
                count++;
            }
        }

        void reckon(ArrayList<Column> columns, int[] sorted, Sorter sorter) {
            byteCount = 0;
            for (int c = 0; c < columns.size(); c++) {
                Column column = columns.get(c);
                System.arraycopy(rows, 0, sorted, 0, count);
                sorter.arrange(sorted, count, column, false, true);
                zones[c].reckon(column, rows, sorted, count);
                byteCount += zones[c].bytesIn(zones[c].form);
            }
        }
    }

    /** The columns, the rows, and where these are. */
    private static final class Table {
        final ArrayList<Column> columns = new ArrayList<Column>();
        final ArrayList<Block> frames = new ArrayList<Block>();
        final boolean[] isLiving = new boolean[MOST_ROWS];
        final int[] home = new int[MOST_ROWS];
        final Sorter sorter = new Sorter();
        Block buffer = new Block();
        int size = FIRST_SIZE;
        int rowCount;
        int livingCount;
        private final Block trial = new Block();
        private final int[] sorted = new int[MOST_IN_FRAME];

        int givenColumns() {
            int given = 0;
            for (int c = 0; c < columns.size(); c++) {
                if (columns.get(c).isGiven) {
                    given++;
                }
            }
            return given;
        }

        int appendGiven() {
            for (int c = 0; c < columns.size(); c++) {
                columns.get(c).takeGiven(rowCount);
            }
            return appendFilled();
        }

        int appendChanged(int row, int column, int value) {
            kill(row);
            for (int c = 0; c < columns.size(); c++) {
                columns.get(c).copy(row, rowCount);
            }
            columns.get(column).put(rowCount, value);
            return appendFilled();
        }

        private int appendFilled() {
            int row = rowCount;
            isLiving[row] = true;
            home[row] = IN_BUFFER;
            buffer.append(row);
            rowCount++;
            livingCount++;
            return row;
        }

        boolean kill(int row) {
            if (!isLiving[row]) {
                return false;
            }
            isLiving[row] = false;
            livingCount--;
            return true;
        }

        void sealIfFull() {
            if (buffer.count >= size) {
                sealBuffer();
            }
        }

        int sealBuffer() {
            dropDead(buffer);
            int sealed = buffer.count;
            if (sealed > 0) {
                buffer.reckon(columns, sorted, sorter);
                frames.add(buffer);
                numberFrom(frames.size() - 1);
                buffer = new Block();
            }
            return sealed;
        }

        int clusterBy(int frame, int column) {
            Block block = frames.get(frame);
            int before = block.byteCount;
            dropDead(block);
            if (block.count == 0) {
                removeFrame(frame);
                return before;
            }
            sorter.arrange(block.rows, block.count, columns.get(column), false, true);
            block.reckon(columns, sorted, sorter);
            return before - block.byteCount;
        }

        int livingIn(int frame) {
            Block block = frames.get(frame);
            int living = 0;
            for (int i = 0; i < block.count; i++) {
                if (isLiving[block.rows[i]]) {
                    living++;
                }
            }
            return living;
        }

        int mergeNext(int frame) {
            Block first = frames.get(frame);
            Block second = frames.get(frame + 1);
            dropDead(first);
            dropDead(second);
            for (int i = 0; i < second.count; i++) {
                first.append(second.rows[i]);
            }
            removeFrame(frame + 1);
            if (first.count == 0) {
                removeFrame(frame);
                return 0;
            }
            numberFrom(frame);
            first.reckon(columns, sorted, sorter);
            return first.count;
        }

        /** As every column leaves the same rows, the fewest bytes behind are the most saved. */
        int bestColumn(int frame) {
            int best = 0;
            int fewest = 0;
            for (int c = 0; c < columns.size(); c++) {
                trial.count = 0;
                appendLiving(frames.get(frame), trial);
                sorter.arrange(trial.rows, trial.count, columns.get(c), false, true);
                trial.reckon(columns, sorted, sorter);
                if (c == 0 || trial.byteCount < fewest) {
                    best = c;
                    fewest = trial.byteCount;
                }
            }
            return best;
        }

        int bytesOfBitmaps() {
            int total = 0;
            for (int c = 0; c < columns.size(); c++) {
                for (int f = 0; f < frames.size() && columns.get(c).isIndexed; f++) {
                    total += frames.get(f).zones[c].bytesOfBitmaps();
                }
            }
            return total;
        }

        private void appendLiving(Block from, Block to) {
            for (int i = 0; i < from.count; i++) {
                if (isLiving[from.rows[i]]) {
                    to.append(from.rows[i]);
                }
            }
        }

        private void dropDead(Block block) {
            int kept = 0;
            for (int i = 0; i < block.count; i++) {
                int row = block.rows[i];
                if (isLiving[row]) {
                    block.rows[kept] = row;
                    kept++;
                } else {
                    home[row] = IN_NONE;
                }
            }
            block.count = kept;
        }

        private void removeFrame(int frame) {
            frames.remove(frame);
            numberFrom(frame);
        }

        private void numberFrom(int first) {
            for (int f = first; f < frames.size(); f++) {
                Block block = frames.get(f);
                for (int i = 0; i < block.count; i++) {
                    home[block.rows[i]] = f;
                }
            }
        }
    }

    /** A test of one column. */
    private static final class Condition {
        int column;
        private int test;
        private int value;

        void state(int newColumn, int newTest, int newValue) {
            column = newColumn;
            test = newTest;
            value = newValue;
        }

        boolean isMetBy(boolean isNull, int other) {
            switch (test) {
                case IS:
                    return !isNull && other == value;
                case IS_NOT:
                    return !isNull && other != value;
                case LESS:
                    return !isNull && other < value;
                case NOT_MORE:
                    return !isNull && other <= value;
                case MORE:
                    return !isNull && other > value;
                case NOT_LESS:
                    return !isNull && other >= value;
                case IS_NULL:
                    return isNull;
                case IS_NOT_NULL:
                    return !isNull;
                default:
                    return false;
            }
        }

        private boolean isMetByNone(Zone zone) {
            boolean isAllNull = zone.nullCount == zone.count;
            switch (test) {
                case IS:
                    return isAllNull || value < zone.low || value > zone.high;
                case IS_NOT:
                    return isAllNull || (zone.low == value && zone.high == value);
                case LESS:
                    return isAllNull || zone.low >= value;
                case NOT_MORE:
                    return isAllNull || zone.low > value;
                case MORE:
                    return isAllNull || zone.high <= value;
                case NOT_LESS:
                    return isAllNull || zone.high < value;
                case IS_NULL:
                    return zone.nullCount == 0;
                case IS_NOT_NULL:
                    return isAllNull;
                default:
                    return true;
            }
        }

        private boolean isMetByAll(Zone zone) {
            boolean isNoneNull = zone.nullCount == 0;
            switch (test) {
                case IS:
                    return isNoneNull && zone.low == value && zone.high == value;
                case IS_NOT:
                    return isNoneNull && (value < zone.low || value > zone.high);
                case LESS:
                    return isNoneNull && zone.high < value;
                case NOT_MORE:
                    return isNoneNull && zone.high <= value;
                case MORE:
                    return isNoneNull && zone.low > value;
                case NOT_LESS:
                    return isNoneNull && zone.low >= value;
                case IS_NULL:
                    return zone.nullCount == zone.count;
                case IS_NOT_NULL:
                    return isNoneNull;
                default:
                    return false;
            }
        }

        int methodIn(Zone zone, boolean isIndexed) {
            if (isMetByNone(zone)) {
                return NONE;
            }
            if (isMetByAll(zone)) {
                return ALL;
            }
            if (isIndexed && zone.hasBitmaps() && test < IS_NULL) {
                return BITMAPS;
            }
            if (zone.form == RUNS) {
                return BY_RUNS;
            }
            return zone.form == DICTIONARY ? BY_CODES : BY_VALUES;
        }

        int guessIn(Zone zone) {
            if (isMetByNone(zone)) {
                return 0;
            }
            if (isMetByAll(zone)) {
                return zone.count;
            }
            int most = zone.count - zone.nullCount;
            int each = zone.distinctCount == 0 ? 0 : most / zone.distinctCount;
            switch (test) {
                case IS:
                    return each;
                case IS_NOT:
                    return most - each;
                case LESS:
                case NOT_MORE:
                    return shareOf(most, (long) value - zone.low, zone);
                case MORE:
                case NOT_LESS:
                    return shareOf(most, (long) zone.high - value, zone);
                case IS_NULL:
                    return zone.nullCount;
                case IS_NOT_NULL:
                    return most;
                default:
                    return 0;
            }
        }

        /** As if the values lay evenly from the least to the greatest. */
        private static int shareOf(int most, long reach, Zone zone) {
            long width = (long) zone.high - zone.low + 1;
            return width < 1 ? 0 : (int) Math.min(most, most * reach / width);
        }
    }

    /** Conditions that a row must all fulfil. */
    private static final class Group {
        final Condition[] conditions = new Condition[MOST_CONDITIONS];
        int count;

        Group() {
            for (int i = 0; i < MOST_CONDITIONS; i++) {
                conditions[i] = new Condition();
            }
        }

        int state(int column, int test, int value) {
            if (count < MOST_CONDITIONS) {
                conditions[count].state(column, test, value);
                count++;
            }
            return count;
        }
    }

    /** The groups of conditions, of which a row must fulfil one. */
    private static final class Query {
        final Group[] groups = new Group[MOST_GROUPS];
        int count = 1;

        Query() {
            for (int g = 0; g < MOST_GROUPS; g++) {
                groups[g] = new Group();
            }
        }

        Group latest() {
            return groups[count - 1];
        }

        int begin() {
            if (count < MOST_GROUPS) {
                count++;
                latest().count = 0;
            }
            return count - 1;
        }

        void reset() {
            count = 1;
            latest().count = 0;
        }

        int conditionCount() {
            int total = 0;
            for (int g = 0; g < count; g++) {
                total += groups[g].count;
            }
            return total;
        }
    }

    /** Carries out the plan for the frames and the BUFFER, and tells what it cost. */
    private static final class Search {
        final int[] rows = new int[MOST_ROWS];
        int count;
        int cost;
        int passedCount;
        private boolean mayUseBitmaps;
        private final boolean[] isSelected = new boolean[MOST_IN_FRAME];
        private int selected;
        private final boolean[] isHit = new boolean[MOST_IN_FRAME];
        private final int[] order = new int[MOST_CONDITIONS];
        private final int[] guesses = new int[MOST_CONDITIONS];

        void run(Table table, Query query, boolean withBitmaps) {
            count = 0;
            cost = 0;
            passedCount = 0;
            mayUseBitmaps = withBitmaps;
            boolean isFree = query.conditionCount() == 0;
            for (int f = 0; f < table.frames.size(); f++) {
                boolean isLeft = lookThrough(table, query, table.frames.get(f), true);
                if (!isLeft && !isFree) {
                    passedCount++;
                }
                collect(table, table.frames.get(f), isFree);
            }
            lookThrough(table, query, table.buffer, false);
            collect(table, table.buffer, isFree);
        }

        /** Whether any group has left a row of the block. */
        private boolean lookThrough(Table table, Query query, Block block, boolean isFrame) {
            boolean isLeft = false;
            for (int i = 0; i < block.count; i++) {
                isHit[i] = false;
            }
            for (int g = 0; g < query.count; g++) {
                Group group = query.groups[g];
                if (group.count > 0) {
                    select(table, group, block, isFrame);
                    isLeft = isLeft || selected > 0;
                    for (int i = 0; i < block.count; i++) {
                        isHit[i] = isHit[i] || isSelected[i];
                    }
                }
            }
            return isLeft;
        }

        private void select(Table table, Group group, Block block, boolean isFrame) {
            orderConditions(group, block, isFrame);
            selected = block.count;
            for (int i = 0; i < block.count; i++) {
                isSelected[i] = true;
            }
            for (int k = 0; k < group.count && selected > 0; k++) {
                Condition condition = group.conditions[order[k]];
                Column column = table.columns.get(condition.column);
                cost += isFrame ? costIn(block.zones[condition.column], condition, column) : selected;
                narrow(block, condition, column);
            }
        }

        /** By their guesses in a frame; in the BUFFER, which has no zones, as they were stated. */
        private void orderConditions(Group group, Block block, boolean isFrame) {
            for (int k = 0; k < group.count; k++) {
                Condition condition = group.conditions[k];
                int guess = isFrame ? condition.guessIn(block.zones[condition.column]) : 0;
                int at = k;
                while (at > 0 && guesses[at - 1] > guess) {
                    guesses[at] = guesses[at - 1];
                    order[at] = order[at - 1];
                    at--;
                }
                guesses[at] = guess;
                order[at] = k;
            }
        }

        private int costIn(Zone zone, Condition condition, Column column) {
            switch (condition.methodIn(zone, mayUseBitmaps && column.isIndexed)) {
                case NONE:
                case ALL:
                    return 0;
                case BITMAPS:
                    return zone.bitmapsFor(condition);
                case BY_RUNS:
                    return zone.runCount;
                case BY_CODES:
                    return zone.distinctCount + selected;
                default:
                    return selected;
            }
        }

        private void narrow(Block block, Condition condition, Column column) {
            for (int i = 0; i < block.count; i++) {
                int row = block.rows[i];
                if (isSelected[i] && !condition.isMetBy(column.lacks[row], column.values[row])) {
                    isSelected[i] = false;
                    selected--;
                }
            }
        }

        private void collect(Table table, Block block, boolean isFree) {
            for (int i = 0; i < block.count; i++) {
                int row = block.rows[i];
                if (table.isLiving[row] && (isFree || isHit[i]) && count < MOST_ROWS) {
                    rows[count] = row;
                    count++;
                }
            }
        }
    }

    /** The rows found, those kept for pairing, and what can be told of them. */
    private static final class Result {
        final int[] rows = new int[MOST_ROWS];
        int count;
        int groupCount;
        private final int[] keptRows = new int[MOST_ROWS];
        private int keptCount;
        private final int[] grouped = new int[MOST_ROWS];
        // One more than there can be groups, as each ends where the next one starts.
        private final int[] starts = new int[MOST_ROWS + 1];

        void take(int[] foundRows, int foundCount) {
            System.arraycopy(foundRows, 0, rows, 0, foundCount);
            count = foundCount;
        }

        int keepRows() {
            System.arraycopy(rows, 0, keptRows, 0, count);
            keptCount = count;
            return keptCount;
        }

        long total(Column column) {
            long total = 0;
            for (int i = 0; i < count; i++) {
                total += column.values[rows[i]];
            }
            return total;
        }

        double average(Column column) {
            int counted = 0;
            for (int i = 0; i < count; i++) {
                if (!column.lacks[rows[i]]) {
                    counted++;
                }
            }
            return counted == 0 ? 0.0 : (double) total(column) / (double) counted;
        }

        void arrangeGroups(Column column, Sorter sorter) {
            System.arraycopy(rows, 0, grouped, 0, count);
            sorter.arrange(grouped, count, column, false, false);
            groupCount = 0;
            for (int i = 0; i < count; i++) {
                if (i == 0 || !column.isSame(grouped[i - 1], grouped[i])) {
                    starts[groupCount] = i;
                    groupCount++;
                }
            }
            starts[groupCount] = count;
        }

        /** Of the groups as they were last arranged. */
        int accountOf(int group, Column by, Column of, int account) {
            int start = starts[group];
            int end = starts[group + 1];
            switch (account) {
                case 0:
                    return by.values[grouped[start]];
                case 1:
                    return end - start;
                case 2:
                    return sumOf(of, start, end);
                default:
                    return endOf(of, start, end, account == 3);
            }
        }

        private int sumOf(Column column, int start, int end) {
            int total = 0;
            for (int i = start; i < end; i++) {
                total += column.values[grouped[i]];
            }
            return total;
        }

        private int endOf(Column column, int start, int end, boolean isLeast) {
            boolean hasAny = false;
            int best = 0;
            for (int i = start; i < end; i++) {
                int row = grouped[i];
                if (!column.lacks[row]) {
                    int value = column.values[row];
                    boolean isBetter = isLeast ? value < best : value > best;
                    best = !hasAny || isBetter ? value : best;
                    hasAny = true;
                }
            }
            return best;
        }

        int pairCount(Column column, Column other) {
            int pairs = 0;
            for (int i = 0; i < count; i++) {
                int row = rows[i];
                for (int k = 0; k < keptCount && !column.lacks[row]; k++) {
                    int kept = keptRows[k];
                    if (!other.lacks[kept] && other.values[kept] == column.values[row]) {
                        pairs++;
                    }
                }
            }
            return pairs;
        }
    }
}
