import java.util.ArrayList;
import java.util.List;

/** What all asking calls of an object answer, so that two objects can be told apart by it. */
final class Answers {
    private static final int MOST_GROUPS = 4;
    private static final int MOST_CONDITIONS = 4;

    private final ColdFrame x;
    private final List<String> lines = new ArrayList<>();

    private Answers(ColdFrame x) {
        this.x = x;
    }

    /** By the calls that change nothing. */
    static List<String> of(ColdFrame x) {
        Answers answers = new Answers(x);
        answers.askCounts();
        answers.askRows();
        answers.askFrames();
        answers.askPlan();
        answers.askResult();
        answers.askGroups();
        return answers.lines;
    }

    /** Also by calls that change it, for an object that is not used any more. */
    static List<String> lastOf(ColdFrame x) {
        Answers answers = new Answers(x);
        answers.lines.addAll(of(x));
        answers.spend();
        answers.lines.addAll(of(x));
        return answers.lines;
    }

    private boolean ask(String what, Check.Call call) {
        String answer = Check.answerOf(call);
        lines.add(what + ": " + answer);
        return !answer.startsWith("throws");
    }

    private void askCounts() {
        ask("columns", x::columns);
        ask("rows", x::rows);
        ask("alive", x::alive);
        ask("frames", x::frames);
        ask("inBuffer", x::inBuffer);
        ask("bitmapBytes", x::bitmapBytes);
        ask("cost", x::cost);
        ask("passed", x::passed);
        ask("costWithout", x::costWithout);
        ask("wouldFind", x::wouldFind);
        ask("digest", x::digest);
    }

    private void askRows() {
        for (int r = 0; r < x.rows(); r++) {
            int row = r;
            ask("isAlive " + row, () -> x.isAlive(row));
            ask("frameOf " + row, () -> x.frameOf(row));
            for (int c = 0; c < x.columns(); c++) {
                int column = c;
                ask("isNull " + row + " " + column, () -> x.isNull(row, column));
                ask("valueOf " + row + " " + column, () -> x.valueOf(row, column));
            }
        }
    }

    private void askFrames() {
        for (int f = 0; f < x.frames(); f++) {
            int frame = f;
            ask("rowsIn " + frame, () -> x.rowsIn(frame));
            for (int p = 0; p < x.rowsIn(frame); p++) {
                int place = p;
                ask("rowAt " + frame + " " + place, () -> x.rowAt(frame, place));
            }
            ask("bytes " + frame, () -> x.bytes(frame));
            ask("bestCluster " + frame, () -> x.bestCluster(frame));
            for (int c = 0; c < x.columns(); c++) {
                askZone(frame, c);
            }
        }
    }

    private void askZone(int frame, int column) {
        String where = " " + frame + " " + column;
        ask("formOf" + where, () -> x.formOf(frame, column));
        ask("nulls" + where, () -> x.nulls(frame, column));
        ask("distinct" + where, () -> x.distinct(frame, column));
        ask("runs" + where, () -> x.runs(frame, column));
        ask("least" + where, () -> x.least(frame, column));
        ask("greatest" + where, () -> x.greatest(frame, column));
        for (int f = 0; f < 5; f++) {
            int form = f;
            ask("bytesAs" + where + " " + form, () -> x.bytesAs(frame, column, form));
        }
    }

    /** No call tells how many conditions there are, so all are asked for till one is refused. */
    private void askPlan() {
        for (int f = 0; f < x.frames(); f++) {
            int frame = f;
            for (int g = 0; g < MOST_GROUPS; g++) {
                int group = g;
                boolean isThere = true;
                for (int p = 0; p < MOST_CONDITIONS && isThere; p++) {
                    int place = p;
                    String where = " " + group + " " + place + " " + frame;
                    isThere = ask("guess" + where, () -> x.guess(group, place, frame));
                    ask("method" + where, () -> x.method(group, place, frame));
                }
            }
        }
    }

    private void askResult() {
        ask("found", x::found);
        for (int p = 0; p < x.found(); p++) {
            int place = p;
            ask("foundAt " + place, () -> x.foundAt(place));
        }
        for (int c = 0; c < x.columns(); c++) {
            int column = c;
            ask("sum " + column, () -> x.sum(column));
            ask("mean " + column, () -> x.mean(column));
            for (int o = 0; o < x.columns(); o++) {
                int other = o;
                ask("pairs " + column + " " + other, () -> x.pairs(column, other));
            }
        }
    }

    /** Of the first and the last group, as there may be 600. */
    private void askGroups() {
        for (int c = 0; c < x.columns(); c++) {
            int column = c;
            int groups = x.groups(column);
            ask("groups " + column, () -> x.groups(column));
            for (int g = 0; g < groups; g += Math.max(1, groups - 1)) {
                for (int a = 0; a < 5; a++) {
                    int group = g;
                    int account = a;
                    ask("ofGroup " + column + " " + group + " " + account,
                            () -> x.ofGroup(column, group, 0, account));
                }
            }
        }
    }

    /** What no asking call tells: the SIZE, the groups' number, what the next row was given. */
    private void spend() {
        ask("orElse", x::orElse);
        ask("where", () -> x.where(0, 7, 0));
        ask("clear", x::clear);
        ask("give", () -> x.give(0, 31));
        ask("add", x::add);
        ask("setSize", () -> x.setSize(64));
        ask("addColumn", x::addColumn);
        ask("seal", x::seal);
    }
}
