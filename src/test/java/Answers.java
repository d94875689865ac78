import java.util.ArrayList;
import java.util.List;

/** What all asking calls of an object answer, so that two objects can be told apart by it. */
final class Answers {
    private static final int MOST_GROUPS = 4;
    private static final int MOST_CONDITIONS = 4;
    private static final int MOST_ASKED = 16;

    private final ColdFrame x;
    private final int columns;
    private final int rows;
    private final int frames;
    private final List<String> lines = new ArrayList<>();

    private Answers(ColdFrame x) {
        this.x = x;
        columns = x.columns();
        rows = x.rows();
        frames = x.frames();
    }

    /** By the calls that change nothing. */
    static List<String> of(ColdFrame x) {
        Answers answers = new Answers(x);
        answers.askCounts();
        answers.askRows();
        answers.askFrames();
        answers.askPlan();
        answers.askResult();
        answers.askGroups();
        return answers.lines;
    }

    /**
     * By calls that change it, for an object that is not used any more: of the groups' number, of what
     * the next row was given, and of the SIZE no asking call tells.
     */
    static List<String> lastOf(ColdFrame x) {
        List<String> lines = new ArrayList<>();
        lines.add("where: " + Check.answerOf(() -> x.where(0, 7, 0)));
        lines.add("orElse: " + Check.answerOf(x::orElse));
        lines.add("where behind it: " + Check.answerOf(() -> x.where(0, 7, 0)));
        lines.add("clear: " + Check.answerOf(x::clear));
        lines.add("give: " + Check.answerOf(() -> x.give(0, 31)));
        lines.add("add: " + Check.answerOf(x::add));
        lines.add("setSize: " + Check.answerOf(() -> x.setSize(64)));
        lines.add("addColumn: " + Check.answerOf(x::addColumn));
        lines.add("seal: " + Check.answerOf(x::seal));
        lines.addAll(of(x));
        return lines;
    }

    private boolean ask(String what, Check.Call call) {
        String answer = Check.answerOf(call);
        lines.add(what + ": " + answer);
        return !answer.startsWith("throws");
    }

    private void askCounts() {
        lines.add("columns, rows and frames: " + columns + " " + rows + " " + frames);
        ask("alive", x::alive);
        ask("inBuffer", x::inBuffer);
        ask("bitmapBytes", x::bitmapBytes);
        ask("cost", x::cost);
        ask("passed", x::passed);
        ask("costWithout", x::costWithout);
        ask("wouldFind", x::wouldFind);
        ask("digest", x::digest);
    }

    /** Those at both ends, as an object has 512 calls; the checksum tells of all. */
    private static int[] someOf(int count) {
        int[] some = new int[Math.min(count, MOST_ASKED)];
        for (int i = 0; i < some.length; i++) {
            some[i] = i < some.length / 2 ? i : count - some.length + i;
        }
        return some;
    }

    private void askRows() {
        for (int row : someOf(rows)) {
            ask("isAlive " + row, () -> x.isAlive(row));
            ask("frameOf " + row, () -> x.frameOf(row));
            for (int c = 0; c < columns; c++) {
                int column = c;
                ask("isNull " + row + " " + column, () -> x.isNull(row, column));
                ask("valueOf " + row + " " + column, () -> x.valueOf(row, column));
            }
        }
    }

    private void askFrames() {
        for (int f = 0; f < frames; f++) {
            int frame = f;
            int rowsIn = x.rowsIn(frame);
            lines.add("rowsIn " + frame + ": " + rowsIn);
            for (int place : someOf(rowsIn)) {
                ask("rowAt " + frame + " " + place, () -> x.rowAt(frame, place));
            }
            ask("bytes " + frame, () -> x.bytes(frame));
            ask("bestCluster " + frame, () -> x.bestCluster(frame));
            for (int c = 0; c < columns; c++) {
                askZone(frame, c);
            }
        }
    }

    private void askZone(int frame, int column) {
        String where = " " + frame + " " + column;
        ask("formOf" + where, () -> x.formOf(frame, column));
        ask("nulls" + where, () -> x.nulls(frame, column));
        ask("distinct" + where, () -> x.distinct(frame, column));
        ask("runs" + where, () -> x.runs(frame, column));
        ask("least" + where, () -> x.least(frame, column));
        ask("greatest" + where, () -> x.greatest(frame, column));
        for (int f = 0; f < 5; f++) {
            int form = f;
            ask("bytesAs" + where + " " + form, () -> x.bytesAs(frame, column, form));
        }
    }

    /** No call tells how many conditions there are, so all are asked for till one is refused. */
    private void askPlan() {
        for (int f = 0; f < frames; f++) {
            int frame = f;
            for (int g = 0; g < MOST_GROUPS; g++) {
                int group = g;
                boolean isThere = true;
                for (int p = 0; p < MOST_CONDITIONS && isThere; p++) {
                    int place = p;
                    String where = " " + group + " " + place + " " + frame;
                    isThere = ask("guess" + where, () -> x.guess(group, place, frame));
                    ask("method" + where, () -> x.method(group, place, frame));
                }
            }
        }
    }

    private void askResult() {
        int found = x.found();
        lines.add("found: " + found);
        for (int place : someOf(found)) {
            ask("foundAt " + place, () -> x.foundAt(place));
        }
        for (int c = 0; c < columns; c++) {
            int column = c;
            ask("sum " + column, () -> x.sum(column));
            ask("mean " + column, () -> x.mean(column));
            for (int o = 0; o < columns; o++) {
                int other = o;
                ask("pairs " + column + " " + other, () -> x.pairs(column, other));
            }
        }
    }

    /** Of the first and the last group, as there may be 600. */
    private void askGroups() {
        for (int c = 0; c < columns; c++) {
            int column = c;
            int groups = x.groups(column);
            lines.add("groups " + column + ": " + groups);
            for (int g = 0; g < groups; g += Math.max(1, groups - 1)) {
                for (int a = 0; a < 5; a++) {
                    int group = g;
                    int account = a;
                    ask("ofGroup " + column + " " + group + " " + account,
                            () -> x.ofGroup(column, group, 0, account));
                }
            }
        }
    }
}
