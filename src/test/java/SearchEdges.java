/** Promises 32 to 39: conditions stated, searches and what they cost. */
final class SearchEdges extends Edges {
    /** A frame of four rows and two in the BUFFER, and so many conditions in each group. */
    private static ColdFrame stated(int... conditions) {
        ColdFrame x = counted(4, 6);
        for (int g = 0; g < conditions.length; g++) {
            if (g > 0) {
                x.orElse();
            }
            for (int c = 0; c < conditions[g]; c++) {
                x.where(0, 1, 10 * g + c);
            }
        }
        return x;
    }

    /** As busy, but all conditions cleared. */
    private static ColdFrame cleared() {
        ColdFrame x = busy();
        x.clear();
        return x;
    }

    // ---- 32 to 34

    @Told(promise = 32, words = "States a condition, in the latest group.")
    void p32latestGroup() {
        ColdFrame x = counted(4, 4);
        x.where(0, 2, 3);
        due("the first one", x.guess(0, 0, 0), 3);
        x.where(0, 2, 1);
        due("behind it", x.guess(0, 1, 0), 1);
        x.orElse();
        x.where(0, 2, 2);
        due("in the second group", x.guess(1, 0, 0), 2);
        due("not in the first one", x.guess(0, 0, 0), 3);
        refused("nor behind it", BOUNDS, () -> stated(2, 1), y -> y.guess(0, 2, 0));
    }

    @Told(promise = 32, words = "Returns how many conditions the group has then.")
    void p32howMany() {
        ColdFrame x = counted(4, 4);
        for (int i = 1; i <= 4; i++) {
            due("in the first group", x.where(0, 0, 5), i);
        }
        x.orElse();
        due("in the second group", x.where(0, 0, 5), 1);
        x.clear();
        due("cleared", x.where(0, 0, 5), 1);
    }

    @Told(promise = 32, words = "Throws `IndexOutOfBoundsException` if there is no such column")
    void p32noColumn() {
        onlyFrom(0, 1, BOUNDS, Scene::busy, (x, column) -> x.where(column, 0, 1));
        onlyFrom(0, 7, BOUNDS, () -> store(8, 4), (x, column) -> x.where(column, 0, 1));
        none(BOUNDS, ColdFrame::new, (x, column) -> x.where(column, 0, 1));
        refused("and no such test", BOUNDS, Scene::busy, x -> x.where(2, 8, 1));
        refused("and 4 conditions", BOUNDS, () -> stated(4), x -> x.where(1, 0, 1));
        refused("and no such test, and 4 conditions", BOUNDS, () -> stated(4), x -> x.where(-1, -1, 1));
    }

    @Told(promise = 32, words = "Throws `IllegalArgumentException` if test is not 0 to 7")
    void p32noTest() {
        onlyFrom(0, 7, ARGUMENT, Scene::busy, (x, test) -> x.where(0, test, 1));
        refused("and 4 conditions", ARGUMENT, () -> stated(4), x -> x.where(0, 8, 1));
        refused("and 4 conditions, below 0", ARGUMENT, () -> stated(1, 4), x -> x.where(0, -1, 1));
    }

    @Told(promise = 32, words = "Throws `IllegalStateException` if the group has 4 conditions")
    void p32full() {
        answered("3", () -> stated(3), x -> x.where(0, 0, 1));
        refused("4", STATE, () -> stated(4), x -> x.where(0, 0, 1));
        refused("4 in the second group", STATE, () -> stated(1, 4), x -> x.where(0, 0, 1));
        refused("4 in the fourth group", STATE, () -> stated(1, 1, 1, 4), x -> x.where(0, 7, 1));
        answered("4 in the group ahead of it", () -> stated(4, 3), x -> x.where(0, 0, 1));
        answered("4 in the group ahead of it, none there", () -> stated(4, 0), x -> x.where(0, 0, 1));
        answered("16 less 1 in all", () -> stated(4, 4, 4, 3), x -> x.where(0, 0, 1));
    }

    @Told(promise = 33, words = "Begins a new group.")
    void p33begins() {
        ColdFrame x = counted(4, 4);
        x.where(0, 0, 1);
        x.orElse();
        due("empty, so it finds none", x.find(), 1);
        x.where(0, 0, 2);
        due("of its own", x.find(), 2);
    }

    @Told(promise = 33, words = "Returns its number.")
    void p33number() {
        due("the second one's", stated(1).orElse(), 1);
        due("the third one's", stated(4, 1).orElse(), 2);
        due("the fourth one's", stated(1, 1, 1).orElse(), 3);
    }

    @Told(promise = 33, words = "Throws `IllegalStateException` if there are 4")
    void p33four() {
        answered("3", () -> stated(1, 1, 1), ColdFrame::orElse);
        refused("4", STATE, () -> stated(1, 1, 1, 1), ColdFrame::orElse);
        refused("4, the latest one full", STATE, () -> stated(4, 4, 4, 4), ColdFrame::orElse);
        refused("4, the latest one empty", STATE, () -> stated(1, 1, 1, 0), ColdFrame::orElse);
    }

    @Told(promise = 33, words = "or the latest one is empty")
    void p33empty() {
        refused("the only one", STATE, ColdFrame::new, ColdFrame::orElse);
        answered("one condition", () -> stated(1), ColdFrame::orElse);
        refused("the second one", STATE, () -> stated(1, 0), ColdFrame::orElse);
        answered("one condition there", () -> stated(4, 1), ColdFrame::orElse);
        refused("cleared", STATE, SearchEdges::cleared, ColdFrame::orElse);
    }

    @Told(promise = 34, words = "There is one group then, empty.")
    void p34oneGroup() {
        ColdFrame x = stated(4, 4, 4, 4);
        x.clear();
        due("no condition is left", x.find(), 6);
        refused("the first one's are gone", BOUNDS, SearchEdges::cleared, y -> y.guess(0, 0, 0));
        refused("the second one is gone", BOUNDS, SearchEdges::cleared, y -> y.guess(1, 0, 0));
        due("its first condition", x.where(0, 0, 3), 1);
        due("the next group", x.orElse(), 1);
        due("is empty", x.find(), 1);
        due("and takes conditions", x.where(0, 0, 4), 1);
        due("its own alone", x.find(), 2);
    }

    @Told(promise = 34, words = "Returns how many conditions there were.")
    void p34howMany() {
        due("none", new ColdFrame().clear(), 0);
        due("one", stated(1).clear(), 1);
        due("one, and an empty group", stated(1, 0).clear(), 1);
        due("of all groups", stated(4, 1, 2).clear(), 7);
        due("16", stated(4, 4, 4, 4).clear(), 16);
        due("cleared", cleared().clear(), 0);
    }

    // ---- 35 to 37

    @Told(promise = 35, words = "Searches.")
    void p35searches() {
        ColdFrame x = stated(0);
        due("no RESULT ahead of it", x.found(), 0);
        x.find();
        due("all", result(x), "0 1 2 3 4 5");
        x.where(0, 4, 2);
        due("not by the condition alone", x.found(), 6);
        x.find();
        due("in a frame and the BUFFER", result(x), "3 4 5");
    }

    @Told(promise = 35, words = "Returns how many rows the RESULT has.")
    void p35howMany() {
        due("without columns", new ColdFrame().find(), 0);
        due("without rows", store(1, 4).find(), 0);
        due("one row", counted(4, 1).find(), 1);
        due("six rows", stated(0).find(), 6);
        due("none ALIVE", killed(stated(0), 0, 5).find(), 0);
        ColdFrame x = stated(0);
        x.find();
        x.limit(2);
        due("once more", x.find(), 6);
    }

    @Told(promise = 36, words = "Returns the COST of the latest find()")
    void p36latest() {
        ColdFrame x = stated(1);
        x.find();
        due("the first one's", x.cost(), 6);
        x.clear();
        x.wouldFind();
        x.costWithout();
        x.delete(5);
        due("till the next one", x.cost(), 6);
        x.find();
        due("the next one's", x.cost(), 0);
    }

    @Told(promise = 36, words = "0 ahead of the first one.")
    void p36aheadOfTheFirst() {
        due("a new object", new ColdFrame().cost(), 0);
        ColdFrame x = stated(1);
        x.costWithout();
        x.wouldFind();
        due("conditions are stated", x.cost(), 0);
        x.find();
        due("behind it", x.cost(), 6);
    }

    @Told(promise = 37, words = "Returns in how many frames all groups that have conditions were left "
            + "without any row SELECTED")
    void p37frames() {
        ColdFrame x = counted(4, 12);
        int[][] due = {{-1, 3}, {0, 2}, {3, 2}, {4, 2}, {11, 2}, {12, 3}};
        for (int[] d : due) {
            x.clear();
            x.where(0, 0, d[0]);
            x.find();
            due("is " + d[0], x.passed(), d[1]);
        }
        x.orElse();
        x.find();
        due("the empty group does not count", x.passed(), 3);
        x.where(0, 0, 5);
        x.find();
        due("one of two groups", x.passed(), 2);
        x.orElse();
        x.where(0, 2, 12);
        x.find();
        due("one of three groups, everywhere", x.passed(), 0);
    }

    @Told(promise = 37, words = "without any row SELECTED")
    void p37selected() {
        ColdFrame x = oneFrame(0, 2, 4, 6);
        x.where(0, 0, 2);
        x.find();
        due("one row", x.passed(), 0);
        x.delete(1);
        due("which is not ALIVE", x.find(), 0);
        due("but SELECTED", x.passed(), 0);
        x.clear();
        x.where(0, 0, 3);
        x.find();
        due("none, though not by the zone", x.passed(), 1);
        x.index(0);
        x.find();
        due("none, by the bitmaps", x.passed(), 1);
    }

    @Told(promise = 37, words = "in the latest find()")
    void p37latest() {
        ColdFrame x = counted(4, 8);
        x.where(0, 0, 5);
        x.find();
        due("the first one's", x.passed(), 1);
        x.where(0, 0, 6);
        x.wouldFind();
        x.costWithout();
        due("till the next one", x.passed(), 1);
        x.find();
        due("the next one's", x.passed(), 2);
    }

    @Told(promise = 37, words = "0 without conditions, and ahead of the first find().")
    void p37none() {
        ColdFrame x = counted(4, 8);
        x.where(0, 0, 77);
        due("ahead of the first", x.passed(), 0);
        x.find();
        due("behind it", x.passed(), 2);
        x.clear();
        x.find();
        due("without conditions", x.passed(), 0);
        killed(x, 0, 7);
        x.find();
        due("without conditions, none ALIVE", x.passed(), 0);
        ColdFrame y = counted(4, 3);
        y.where(0, 0, 77);
        y.find();
        due("without frames", y.passed(), 0);
    }

    // ---- 38 and 39

    private interface AskedOf {
        Object of(ColdFrame x, int group, int place, int frame);
    }

    /** Groups of two conditions and of one, and two frames. */
    private void noGroupConditionOrFrame(AskedOf call) {
        onlyFrom(0, 1, BOUNDS, Scene::busy, (x, group) -> call.of(x, group, 0, 0));
        onlyFrom(0, 1, BOUNDS, Scene::busy, (x, place) -> call.of(x, 0, place, 0));
        onlyFrom(0, 0, BOUNDS, Scene::busy, (x, place) -> call.of(x, 1, place, 0));
        onlyFrom(0, 1, BOUNDS, Scene::busy, (x, frame) -> call.of(x, 0, 0, frame));
        onlyFrom(0, 3, BOUNDS, () -> stated(4, 4, 4, 4), (x, group) -> call.of(x, group, 3, 0));
        onlyFrom(0, 3, BOUNDS, () -> stated(4, 4, 4, 4), (x, place) -> call.of(x, 3, place, 0));
        refused("an empty group has none", BOUNDS, () -> stated(1, 0), x -> call.of(x, 1, 0, 0));
        refused("a cleared group has none", BOUNDS, SearchEdges::cleared, x -> call.of(x, 0, 0, 0));
        refused("the BUFFER is no frame", BOUNDS, Scene::busy, x -> call.of(x, 0, 0, -1));
        refused("there is no frame", BOUNDS, SearchEdges::noFrame, x -> call.of(x, 0, 0, 0));
        refused("nothing of it is there", BOUNDS, Scene::busy, x -> call.of(x, 2, 4, 2));
    }

    private static ColdFrame noFrame() {
        ColdFrame x = counted(4, 3);
        x.where(0, 0, 1);
        return x;
    }

    /** Guesses 3 and 1 in group 0, 2 in group 1. */
    private static ColdFrame guessed() {
        ColdFrame x = counted(4, 8);
        x.where(0, 2, 3);
        x.where(0, 2, 1);
        x.orElse();
        x.where(0, 2, 2);
        return x;
    }

    @Told(promise = 38, words = "the place of a condition in it, from 0, as they were stated")
    void p38place() {
        due("the first one", guessed().guess(0, 0, 0), 3);
        due("the second one", guessed().guess(0, 1, 0), 1);
        due("the first one of the second group", guessed().guess(1, 0, 0), 2);
    }

    @Told(promise = 38, words = "Returns its GUESS there, as it is now.")
    void p38now() {
        ColdFrame x = guessed();
        due("the first frame", x.guess(0, 0, 0), 3);
        due("the second frame", x.guess(0, 0, 1), 0);
        x.delete(0);
        due("a row is deleted", x.guess(0, 0, 0), 3);
        x.cluster(0, 0);
        due("clustered: 1 2 3", x.guess(0, 0, 0), 2);
        x.clear();
        x.where(0, 4, 5);
        due("another condition", x.guess(0, 0, 1), 2);
        x.merge(0);
        due("merged: 1 to 7", x.guess(0, 0, 0), 2);
    }

    @Told(promise = 38, words = "Throws `IndexOutOfBoundsException` if there is no such group, condition or frame")
    void p38noGroupConditionOrFrame() {
        noGroupConditionOrFrame(ColdFrame::guess);
    }

    @Told(promise = 39, words = "the place of a condition in it, as they were stated")
    void p39place() {
        ColdFrame x = counted(4, 4);
        x.where(0, 0, 2);
        x.where(0, 0, 4);
        x.orElse();
        x.where(0, 5, 0);
        due("the first one, though the other one is looked at first", x.method(0, 0, 0), 5);
        due("the second one", x.method(0, 1, 0), 0);
        due("the first one of the second group", x.method(1, 0, 0), 1);
    }

    @Told(promise = 39, words = "Returns its METHOD there, as it is now")
    void p39now() {
        ColdFrame x = counted(4, 8);
        x.where(0, 0, 2);
        due("the first frame", x.method(0, 0, 0), 5);
        due("the second frame", x.method(0, 0, 1), 0);
        x.index(0);
        due("INDEXED", x.method(0, 0, 0), 2);
        x.index(0);
        due("not any more", x.method(0, 0, 0), 5);
        killed(x, 2, 3);
        due("rows are deleted", x.method(0, 0, 0), 5);
        x.cluster(0, 0);
        due("clustered", x.method(0, 0, 0), 0);
    }

    @Told(promise = 39, words = "looked at or not")
    void p39leftOut() {
        ColdFrame x = counted(4, 4);
        x.where(0, 0, 77);
        x.where(0, 0, 2);
        due("ahead of the first find", x.method(0, 1, 0), 5);
        x.find();
        due("left out", x.cost(), 0);
        due("has one all the same", x.method(0, 1, 0), 5);
    }

    @Told(promise = 39, words = "0 NONE, 1 ALL, 2 BITMAPS, 3 BY RUNS, 4 BY CODES, 5 BY VALUES.")
    void p39numbers() {
        ColdFrame x = oneFrame(joined(times(9, null), times(50, 3)));
        x.where(0, 0, 4);
        x.where(0, 0, 3);
        due("NONE", x.method(0, 0, 0), 0);
        due("BY RUNS", x.method(0, 1, 0), 3);
        x.index(0);
        due("BITMAPS", x.method(0, 1, 0), 2);
        ColdFrame y = oneFrame(0, 0, 100);
        y.where(0, 5, 0);
        y.where(0, 5, 1);
        due("ALL", y.method(0, 0, 0), 1);
        due("BY CODES", y.method(0, 1, 0), 4);
        ColdFrame z = oneFrame(0, 0, 1);
        z.where(0, 5, 1);
        due("BY VALUES", z.method(0, 0, 0), 5);
    }

    @Told(promise = 39, words = "Throws `IndexOutOfBoundsException` if there is no such group, condition or frame")
    void p39noGroupConditionOrFrame() {
        noGroupConditionOrFrame(ColdFrame::method);
    }
}
