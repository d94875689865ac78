import java.math.BigInteger;
import java.util.ArrayList;
import java.util.Collections;
import java.util.Comparator;
import java.util.List;
import java.util.TreeMap;
import java.util.TreeSet;

/**
 * The document once more, written for plainness with the Java library and reckoning all anew at
 * each call, so that a slip in ColdFrame is not likely to stand here, too.
 */
public final class Model {
    private final List<List<Integer>> table = new ArrayList<>();
    private final List<Boolean> living = new ArrayList<>();
    private final List<List<Integer>> frames = new ArrayList<>();
    private final TreeMap<Integer, Integer> next = new TreeMap<>();
    private final TreeSet<Integer> indexed = new TreeSet<>();
    private final List<List<int[]>> groups = new ArrayList<>(List.of(new ArrayList<>()));
    private List<Integer> buffer = new ArrayList<>();
    private List<Integer> result = new ArrayList<>();
    private List<Integer> kept = new ArrayList<>();
    private int columnCount;
    private int size = 32;
    private int cost;
    private int passed;

    private record Plan(List<Integer> rows, int cost, int passed) {
    }

    private static void bounds(boolean isThere) {
        if (!isThere) {
            throw new IndexOutOfBoundsException();
        }
    }

    private static void argument(boolean isGood) {
        if (!isGood) {
            throw new IllegalArgumentException();
        }
    }

    private static void state(boolean isGood) {
        if (!isGood) {
            throw new IllegalStateException();
        }
    }

    private void column(int column) {
        bounds(0 <= column && column < columnCount);
    }

    private void row(int row) {
        bounds(0 <= row && row < table.size());
    }

    private void frame(int frame) {
        bounds(0 <= frame && frame < frames.size());
    }

    public int addColumn() {
        state(columnCount < 8 && table.isEmpty());
        return columnCount++;
    }

    public int give(int column, int value) {
        column(column);
        next.put(column, value);
        return next.size();
    }

    public int add() {
        state(columnCount > 0 && table.size() < 600);
        List<Integer> values = new ArrayList<>();
        for (int c = 0; c < columnCount; c++) {
            values.add(next.get(c));
        }
        next.clear();
        return append(values);
    }

    private int append(List<Integer> values) {
        table.add(values);
        living.add(true);
        buffer.add(table.size() - 1);
        if (buffer.size() == size) {
            seal();
        }
        return table.size() - 1;
    }

    public boolean delete(int row) {
        row(row);
        return living.set(row, false);
    }

    public int change(int row, int column, int value) {
        row(row);
        column(column);
        state(living.get(row) && table.size() < 600);
        living.set(row, false);
        List<Integer> values = new ArrayList<>(table.get(row));
        values.set(column, value);
        return append(values);
    }

    public int setSize(int size) {
        argument(4 <= size && size <= 64);
        int before = this.size;
        this.size = size;
        if (buffer.size() >= size) {
            seal();
        }
        return before;
    }

    public int seal() {
        state(!buffer.isEmpty());
        List<Integer> sealed = livingOf(buffer);
        if (!sealed.isEmpty()) {
            frames.add(sealed);
        }
        buffer = new ArrayList<>();
        return sealed.size();
    }

    private List<Integer> livingOf(List<Integer> rows) {
        return new ArrayList<>(rows.stream().filter(living::get).toList());
    }

    public int cluster(int frame, int column) {
        frame(frame);
        column(column);
        int before = bytes(frame);
        List<Integer> rows = clustered(frames.get(frame), column);
        if (rows.isEmpty()) {
            frames.remove(frame);
            return before;
        }
        frames.set(frame, rows);
        return before - bytes(frame);
    }

    private List<Integer> clustered(List<Integer> rows, int column) {
        List<Integer> sorted = livingOf(rows);
        sorted.sort(Comparator.comparing(r -> table.get(r).get(column),
                Comparator.nullsFirst(Comparator.naturalOrder())));
        return sorted;
    }

    public int merge(int frame) {
        frame(frame);
        bounds(frame + 1 < frames.size());
        List<Integer> rows = livingOf(frames.get(frame));
        rows.addAll(livingOf(frames.get(frame + 1)));
        state(rows.size() <= 64);
        frames.remove(frame);
        frames.remove(frame);
        if (!rows.isEmpty()) {
            frames.add(frame, rows);
        }
        return rows.size();
    }

    public boolean index(int column) {
        column(column);
        if (!indexed.remove(column)) {
            indexed.add(column);
            return true;
        }
        return false;
    }

    public int columns() {
        return columnCount;
    }

    public int rows() {
        return table.size();
    }

    public int alive() {
        return Collections.frequency(living, true);
    }

    public int frames() {
        return frames.size();
    }

    public int inBuffer() {
        return buffer.size();
    }

    public boolean isAlive(int row) {
        row(row);
        return living.get(row);
    }

    public boolean isNull(int row, int column) {
        row(row);
        column(column);
        return table.get(row).get(column) == null;
    }

    public int valueOf(int row, int column) {
        return isNull(row, column) ? 0 : table.get(row).get(column);
    }

    public int frameOf(int row) {
        row(row);
        for (int f = 0; f < frames.size(); f++) {
            if (frames.get(f).contains(row)) {
                return f;
            }
        }
        return buffer.contains(row) ? -1 : -2;
    }

    public int rowsIn(int frame) {
        frame(frame);
        return frames.get(frame).size();
    }

    public int rowAt(int frame, int place) {
        frame(frame);
        bounds(0 <= place && place < frames.get(frame).size());
        return frames.get(frame).get(place);
    }

    private List<Integer> valuesIn(List<Integer> rows, int column) {
        List<Integer> values = new ArrayList<>();
        for (int row : rows) {
            values.add(table.get(row).get(column));
        }
        return values;
    }

    private List<Integer> valuesIn(int frame, int column) {
        frame(frame);
        column(column);
        return valuesIn(frames.get(frame), column);
    }

    private static TreeSet<Integer> different(List<Integer> values) {
        TreeSet<Integer> different = new TreeSet<>();
        for (Integer value : values) {
            if (value != null) {
                different.add(value);
            }
        }
        return different;
    }

    private static int runsOf(List<Integer> values) {
        int runs = 0;
        for (int i = 0; i < values.size(); i++) {
            if (i == 0 || !java.util.Objects.equals(values.get(i), values.get(i - 1))) {
                runs++;
            }
        }
        return runs;
    }

    private static int bits(long number) {
        return BigInteger.valueOf(number).bitLength();
    }

    private static int bytesAs(List<Integer> values, int form) {
        int n = values.size();
        int nulls = Collections.frequency(values, null);
        TreeSet<Integer> different = different(values);
        int distinct = different.size();
        if (form == 0) {
            return 4 * n + (nulls != 0 ? (n + 7) / 8 : 0);
        }
        if (form == 1) {
            if (distinct == 0) {
                return -1;
            }
            long span = (long) different.last() - (long) different.first();
            int w = nulls != 0 ? bits(span + 1) : bits(span);
            return 9 + (n * w + 7) / 8;
        }
        if (form == 2) {
            return 6 * runsOf(values);
        }
        if (form == 3) {
            int code = nulls != 0 ? bits(distinct) : bits(distinct - 1);
            return 2 + 4 * distinct + (n * code + 7) / 8;
        }
        if (nulls != 0) {
            return -1;
        }
        long f = 0;
        for (int i = 1; i < n; i++) {
            long d = (long) values.get(i) - (long) values.get(i - 1);
            f = Math.max(f, d > 0 ? 2 * d - 1 : -2 * d);
        }
        return 9 + ((n - 1) * bits(f) + 7) / 8;
    }

    private static int formOf(List<Integer> values) {
        TreeMap<Integer, Integer> formByBytes = new TreeMap<>();
        for (int form = 4; form >= 0; form--) {
            if (bytesAs(values, form) >= 0) {
                formByBytes.put(bytesAs(values, form), form);
            }
        }
        return formByBytes.firstEntry().getValue();
    }

    public int formOf(int frame, int column) {
        return formOf(valuesIn(frame, column));
    }

    public int bytesAs(int frame, int column, int form) {
        List<Integer> values = valuesIn(frame, column);
        argument(0 <= form && form <= 4);
        return bytesAs(values, form);
    }

    private int bytesOf(List<Integer> rows) {
        int sum = 0;
        for (int c = 0; c < columnCount; c++) {
            List<Integer> values = valuesIn(rows, c);
            sum += bytesAs(values, formOf(values));
        }
        return sum;
    }

    public int bytes(int frame) {
        frame(frame);
        return bytesOf(frames.get(frame));
    }

    private boolean hasBitmaps(int frame, int column) {
        int distinct = distinct(frame, column);
        return indexed.contains(column) && 1 <= distinct && distinct <= 16;
    }

    public int bitmapBytes() {
        int sum = 0;
        for (int f = 0; f < frames.size(); f++) {
            for (int c = 0; c < columnCount; c++) {
                if (hasBitmaps(f, c)) {
                    sum += distinct(f, c) * ((rowsIn(f) + 7) / 8);
                }
            }
        }
        return sum;
    }

    public int nulls(int frame, int column) {
        return Collections.frequency(valuesIn(frame, column), null);
    }

    public int distinct(int frame, int column) {
        return different(valuesIn(frame, column)).size();
    }

    public int runs(int frame, int column) {
        return runsOf(valuesIn(frame, column));
    }

    public int least(int frame, int column) {
        TreeSet<Integer> different = different(valuesIn(frame, column));
        return different.isEmpty() ? 0 : different.first();
    }

    public int greatest(int frame, int column) {
        TreeSet<Integer> different = different(valuesIn(frame, column));
        return different.isEmpty() ? 0 : different.last();
    }

    public int where(int column, int test, int value) {
        column(column);
        argument(0 <= test && test <= 7);
        List<int[]> latest = groups.get(groups.size() - 1);
        state(latest.size() < 4);
        latest.add(new int[] {column, test, value});
        return latest.size();
    }

    public int orElse() {
        state(groups.size() < 4 && !groups.get(groups.size() - 1).isEmpty());
        groups.add(new ArrayList<>());
        return groups.size() - 1;
    }

    public int clear() {
        int count = groups.stream().mapToInt(List::size).sum();
        groups.clear();
        groups.add(new ArrayList<>());
        return count;
    }

    public int find() {
        Plan plan = search(true);
        result = plan.rows;
        cost = plan.cost;
        passed = plan.passed;
        return result.size();
    }

    private Plan search(boolean withBitmaps) {
        List<List<int[]>> stated = groups.stream().filter(g -> !g.isEmpty()).toList();
        TreeSet<Integer> fulfilling = new TreeSet<>();
        int allCost = 0;
        int allPassed = 0;
        for (int f = 0; f < frames.size(); f++) {
            final int frame = f;
            boolean isLeft = false;
            for (List<int[]> group : stated) {
                List<int[]> ordered = new ArrayList<>(group);
                ordered.sort(Comparator.comparingInt(c -> guessOf(c, frame)));
                List<Integer> selected = new ArrayList<>(frames.get(f));
                for (int[] c : ordered) {
                    if (!selected.isEmpty()) {
                        allCost += costOf(c, f, selected.size(), withBitmaps);
                        selected.removeIf(r -> !rowFulfils(c, r));
                    }
                }
                isLeft |= !selected.isEmpty();
                fulfilling.addAll(selected);
            }
            allPassed += !stated.isEmpty() && !isLeft ? 1 : 0;
        }
        for (List<int[]> group : stated) {
            List<Integer> selected = new ArrayList<>(buffer);
            for (int[] c : group) {
                allCost += selected.size();
                selected.removeIf(r -> !rowFulfils(c, r));
            }
            fulfilling.addAll(selected);
        }
        List<Integer> found = new ArrayList<>();
        frames.forEach(found::addAll);
        found.addAll(buffer);
        found.removeIf(r -> !living.get(r) || !(stated.isEmpty() || fulfilling.contains(r)));
        return new Plan(found, allCost, allPassed);
    }

    private boolean rowFulfils(int[] condition, int row) {
        return fulfils(condition, table.get(row).get(condition[0]));
    }

    private static boolean fulfils(int[] condition, Integer value) {
        int test = condition[1];
        if (value == null || test >= 6) {
            return value == null ? test == 6 : test == 7;
        }
        int compared = value.compareTo(condition[2]);
        return switch (test) {
            case 0 -> compared == 0;
            case 1 -> compared != 0;
            case 2 -> compared < 0;
            case 3 -> compared <= 0;
            case 4 -> compared > 0;
            default -> compared >= 0;
        };
    }

    /** How many whole numbers from least to greatest fulfil a test of 0 to 5. */
    private static long fulfillingOf(int test, long v, long least, long greatest) {
        long all = greatest - least + 1;
        return switch (test) {
            case 0 -> least <= v && v <= greatest ? 1 : 0;
            case 2 -> Math.max(0, Math.min(all, v - least));
            case 3 -> fulfillingOf(2, v + 1, least, greatest);
            default -> all - fulfillingOf(test == 1 ? 0 : 7 - test, v, least, greatest);
        };
    }

    private boolean isNone(int[] c, int frame) {
        int nulls = nulls(frame, c[0]);
        if (c[1] == 6) {
            return nulls == 0;
        }
        return nulls == rowsIn(frame) || c[1] < 6
                && fulfillingOf(c[1], c[2], least(frame, c[0]), greatest(frame, c[0])) == 0;
    }

    private boolean isAll(int[] c, int frame) {
        int nulls = nulls(frame, c[0]);
        if (c[1] == 6) {
            return nulls == rowsIn(frame);
        }
        long least = least(frame, c[0]);
        long greatest = greatest(frame, c[0]);
        return nulls == 0 && (c[1] == 7
                || fulfillingOf(c[1], c[2], least, greatest) == greatest - least + 1);
    }

    private int methodOf(int[] c, int frame, boolean withBitmaps) {
        if (isNone(c, frame)) {
            return 0;
        }
        if (isAll(c, frame)) {
            return 1;
        }
        if (withBitmaps && hasBitmaps(frame, c[0]) && c[1] <= 5) {
            return 2;
        }
        int form = formOf(frame, c[0]);
        return form == 2 ? 3 : form == 3 ? 4 : 5;
    }

    private int costOf(int[] c, int frame, int selected, boolean withBitmaps) {
        return switch (methodOf(c, frame, withBitmaps)) {
            case 0, 1 -> 0;
            case 2 -> (int) different(valuesIn(frame, c[0])).stream().filter(v -> fulfils(c, v)).count();
            case 3 -> runs(frame, c[0]);
            case 4 -> distinct(frame, c[0]) + selected;
            default -> selected;
        };
    }

    private int guessOf(int[] c, int frame) {
        if (isNone(c, frame)) {
            return 0;
        }
        if (isAll(c, frame)) {
            return rowsIn(frame);
        }
        long m = rowsIn(frame) - nulls(frame, c[0]);
        long v = c[2];
        long least = least(frame, c[0]);
        long greatest = greatest(frame, c[0]);
        return (int) switch (c[1]) {
            case 0 -> m / distinct(frame, c[0]);
            case 1 -> m - m / distinct(frame, c[0]);
            case 2, 3 -> Math.min(m, m * (v - least) / (greatest - least + 1));
            case 4, 5 -> Math.min(m, m * (greatest - v) / (greatest - least + 1));
            case 6 -> nulls(frame, c[0]);
            default -> m;
        };
    }

    public int cost() {
        return cost;
    }

    public int passed() {
        return passed;
    }

    private int[] condition(int group, int place, int frame) {
        bounds(0 <= group && group < groups.size());
        bounds(0 <= place && place < groups.get(group).size());
        frame(frame);
        return groups.get(group).get(place);
    }

    public int guess(int group, int place, int frame) {
        return guessOf(condition(group, place, frame), frame);
    }

    public int method(int group, int place, int frame) {
        return methodOf(condition(group, place, frame), frame, true);
    }

    public int found() {
        return result.size();
    }

    public int foundAt(int place) {
        bounds(0 <= place && place < result.size());
        return result.get(place);
    }

    public int sort(int column, boolean isFalling) {
        column(column);
        Comparator<Integer> rising = Comparator.naturalOrder();
        result.sort(Comparator.comparing(r -> table.get(r).get(column),
                Comparator.nullsLast(isFalling ? rising.reversed() : rising)));
        return result.isEmpty() ? -1 : result.get(0);
    }

    public int limit(int most) {
        argument(most >= 0);
        while (result.size() > most) {
            result.remove(result.size() - 1);
        }
        return result.size();
    }

    public int sum(int column) {
        column(column);
        return sumOf(valuesIn(result, column));
    }

    private static int sumOf(List<Integer> values) {
        BigInteger sum = BigInteger.ZERO;
        for (Integer value : values) {
            sum = sum.add(BigInteger.valueOf(value == null ? 0 : value));
        }
        return sum.intValue();
    }

    public double mean(int column) {
        column(column);
        return valuesIn(result, column).stream().filter(v -> v != null)
                .mapToLong(v -> v).average().orElse(0);
    }

    public int groups(int column) {
        column(column);
        return grouped(column).size();
    }

    private TreeMap<Integer, List<Integer>> grouped(int column) {
        TreeMap<Integer, List<Integer>> groups =
                new TreeMap<>(Comparator.nullsLast(Comparator.<Integer>naturalOrder()));
        for (int row : result) {
            groups.computeIfAbsent(table.get(row).get(column), v -> new ArrayList<>()).add(row);
        }
        return groups;
    }

    public int ofGroup(int column, int group, int of, int account) {
        column(column);
        column(of);
        TreeMap<Integer, List<Integer>> groups = grouped(column);
        bounds(0 <= group && group < groups.size());
        argument(0 <= account && account <= 4);
        Integer value = new ArrayList<>(groups.keySet()).get(group);
        List<Integer> others = valuesIn(groups.get(value), of);
        TreeSet<Integer> different = different(others);
        return switch (account) {
            case 0 -> value == null ? 0 : value;
            case 1 -> others.size();
            case 2 -> sumOf(others);
            case 3 -> different.isEmpty() ? 0 : different.first();
            default -> different.isEmpty() ? 0 : different.last();
        };
    }

    public int keep() {
        kept = new ArrayList<>(result);
        return kept.size();
    }

    public int pairs(int column, int other) {
        column(column);
        column(other);
        List<Integer> others = valuesIn(kept, other);
        int pairs = 0;
        for (Integer value : valuesIn(result, column)) {
            pairs += value == null ? 0 : Collections.frequency(others, value);
        }
        return pairs;
    }

    public int costWithout() {
        return search(false).cost;
    }

    public int wouldFind() {
        return search(true).rows.size();
    }

    public int bestCluster(int frame) {
        frame(frame);
        List<Integer> told = new ArrayList<>();
        for (int c = 0; c < columnCount; c++) {
            told.add(bytes(frame) - bytesOf(clustered(frames.get(frame), c)));
        }
        return livingOf(frames.get(frame)).isEmpty() ? 0 : told.indexOf(Collections.max(told));
    }

    public long digest() {
        List<Integer> x = new ArrayList<>(List.of(columns(), rows(), alive(), frames(), inBuffer(),
                bitmapBytes(), cost(), passed(), found()));
        x.addAll(result);
        for (int r = 0; r < rows(); r++) {
            x.add(isAlive(r) ? 1 : 0);
            x.add(frameOf(r));
            for (int c = 0; c < columnCount; c++) {
                x.add(isNull(r, c) ? 1 : 0);
                x.add(valueOf(r, c));
            }
        }
        for (int f = 0; f < frames(); f++) {
            x.add(rowsIn(f));
            x.addAll(frames.get(f));
            x.add(bytes(f));
            for (int c = 0; c < columnCount; c++) {
                x.addAll(List.of(formOf(f, c), nulls(f, c), distinct(f, c), runs(f, c),
                        least(f, c), greatest(f, c)));
            }
        }
        long d = 58023;
        for (int number : x) {
            d = d * 31 + number;
        }
        return d;
    }
}
