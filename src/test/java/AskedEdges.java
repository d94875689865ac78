/** Promises 12 to 22: the table, asked. */
final class AskedEdges extends Edges {
    /** Two frames, the second one's row 5 deleted; two rows in the BUFFER, row 9 deleted. */
    private static ColdFrame some() {
        ColdFrame x = counted(4, 10);
        x.delete(5);
        x.delete(9);
        return x;
    }

    private static ColdFrame gone(ColdFrame x) {
        killed(x, 0, 3);
        x.cluster(0, 0);
        return x;
    }

    // ---- 12 to 16

    @Told(promise = 12, words = "Returns how many columns there are.")
    void p12columns() {
        due("none", new ColdFrame().columns(), 0);
        due("one", store(1, 4).columns(), 1);
        due("8", store(8, 4).columns(), 8);
    }

    @Told(promise = 13, words = "Returns how many rows were added.")
    void p13rows() {
        ColdFrame x = store(1, 4);
        due("none", x.rows(), 0);
        x.give(0, 1);
        due("given is not added", x.rows(), 0);
        x.add();
        due("one", x.rows(), 1);
        x.delete(0);
        due("deleted", x.rows(), 1);
        x.seal();
        due("in none any more", x.rows(), 1);
        x.change(x.add(), 0, 3);
        due("by a change, too", x.rows(), 3);
    }

    @Told(promise = 14, words = "Returns how many rows are ALIVE.")
    void p14alive() {
        ColdFrame x = store(1, 4);
        due("none", x.alive(), 0);
        x.add();
        due("one", x.alive(), 1);
        x.change(0, 0, 3);
        due("a change takes one, too", x.alive(), 1);
        x.delete(1);
        due("none any more", x.alive(), 0);
        x.delete(1);
        due("nor fewer", x.alive(), 0);
        due("of ten", some().alive(), 8);
    }

    @Told(promise = 15, words = "Returns how many frames there are.")
    void p15frames() {
        due("none", counted(4, 3).frames(), 0);
        due("one", counted(4, 4).frames(), 1);
        due("one still", counted(4, 7).frames(), 1);
        due("two", counted(4, 8).frames(), 2);
        due("one is gone", gone(counted(4, 8)).frames(), 1);
        due("none ALIVE", killed(counted(4, 8), 0, 7).frames(), 2);
    }

    @Told(promise = 16, words = "Returns how many rows are in the BUFFER, ALIVE or not.")
    void p16inBuffer() {
        due("none", new ColdFrame().inBuffer(), 0);
        due("one", counted(4, 1).inBuffer(), 1);
        due("three", counted(4, 3).inBuffer(), 3);
        due("one of three is not ALIVE", killed(counted(4, 3), 1, 1).inBuffer(), 3);
        due("none of three is", killed(counted(4, 3), 0, 2).inBuffer(), 3);
        due("just sealed", counted(4, 4).inBuffer(), 0);
        due("one behind it", counted(4, 5).inBuffer(), 1);
    }

    // ---- 17 to 19

    @Told(promise = 17, words = "Returns whether it is ALIVE.")
    void p17alive() {
        ColdFrame x = some();
        due("in a frame", x.isAlive(4), true);
        due("not, in a frame", x.isAlive(5), false);
        due("in the BUFFER", x.isAlive(8), true);
        due("not, in the BUFFER", x.isAlive(9), false);
        x.cluster(1, 0);
        due("not, in none any more", x.isAlive(5), false);
    }

    @Told(promise = 17, words = "Throws `IndexOutOfBoundsException` if there is no such row")
    void p17noRow() {
        onlyFrom(0, 9, BOUNDS, Scene::busy, (x, row) -> x.isAlive(row));
        none(BOUNDS, () -> store(1, 4), (x, row) -> x.isAlive(row));
    }

    @Told(promise = 18, words = "Returns whether it is NULL there.")
    void p18isNull() {
        ColdFrame x = store(2, 4);
        row(x, null, 0);
        row(x, 0, null);
        due("NULL", x.isNull(0, 0), true);
        due("0 is not", x.isNull(0, 1), false);
        due("0 is not, the other column", x.isNull(1, 0), false);
        due("NULL, the other column", x.isNull(1, 1), true);
        killed(x, 0, 1);
        x.seal();
        due("for ever", x.isNull(0, 0), true);
        due("not, for ever", x.isNull(0, 1), false);
    }

    @Told(promise = 18, words = "Throws `IndexOutOfBoundsException` if there is no such row or column")
    void p18noRowOrColumn() {
        onlyFrom(0, 9, BOUNDS, Scene::busy, (x, row) -> x.isNull(row, 0));
        onlyFrom(0, 1, BOUNDS, Scene::busy, (x, column) -> x.isNull(9, column));
        none(BOUNDS, () -> store(1, 4), (x, row) -> x.isNull(row, 0));
        refused("neither", BOUNDS, Scene::busy, x -> x.isNull(10, 2));
    }

    @Told(promise = 19, words = "Returns its value there")
    void p19value() {
        ColdFrame x = oneColumn(4, MIN, MAX, -1, 0, 7);
        int[] due = {MIN, MAX, -1, 0, 7};
        for (int r = 0; r < 5; r++) {
            due("row " + r, x.valueOf(r, 0), due[r]);
        }
        killed(x, 0, 4);
        x.cluster(0, 0);
        x.seal();
        for (int r = 0; r < 5; r++) {
            due("in none any more, row " + r, x.valueOf(r, 0), due[r]);
        }
    }

    @Told(promise = 19, words = "0 if it is NULL.")
    void p19null() {
        ColdFrame x = store(2, 4);
        row(x, 5, null);
        row(x, null, 5);
        due("the second column", x.valueOf(0, 1), 0);
        due("behind a value", x.valueOf(1, 0), 0);
        due("that is there, too", x.valueOf(1, 1), 5);
    }

    @Told(promise = 19, words = "Throws `IndexOutOfBoundsException` if there is no such row or column")
    void p19noRowOrColumn() {
        onlyFrom(0, 9, BOUNDS, Scene::busy, (x, row) -> x.valueOf(row, 0));
        onlyFrom(0, 1, BOUNDS, Scene::busy, (x, column) -> x.valueOf(9, column));
        none(BOUNDS, () -> store(1, 4), (x, row) -> x.valueOf(row, 0));
        refused("neither", BOUNDS, Scene::busy, x -> x.valueOf(10, 2));
    }

    // ---- 20 to 22

    @Told(promise = 20, words = "Returns the frame in which it is")
    void p20frame() {
        ColdFrame x = some();
        due("the first row", x.frameOf(0), 0);
        due("the last one of the first frame", x.frameOf(3), 0);
        due("the first one of the second frame", x.frameOf(4), 1);
        due("not ALIVE", x.frameOf(5), 1);
        due("the last one of the second frame", x.frameOf(7), 1);
    }

    @Told(promise = 20, words = "-1 in the BUFFER")
    void p20buffer() {
        due("one row", counted(4, 1).frameOf(0), -1);
        due("the last one ahead of SIZE", counted(4, 3).frameOf(2), -1);
        due("the one that makes it SIZE", counted(4, 4).frameOf(3), 0);
        due("not ALIVE", some().frameOf(9), -1);
    }

    @Told(promise = 20, words = "-2 if it is in none any more")
    void p20none() {
        ColdFrame x = some();
        x.seal();
        due("left out as the BUFFER is sealed", x.frameOf(9), -2);
        due("not ALIVE in a frame", x.frameOf(5), 1);
        x.cluster(1, 0);
        due("left out as it is clustered", x.frameOf(5), -2);
        x.delete(0);
        x.merge(0);
        due("left out as it is merged", x.frameOf(0), -2);
        due("not left out", x.frameOf(1), 0);
        ColdFrame y = gone(some());
        due("the frame is gone", y.frameOf(0), -2);
        ColdFrame z = killed(some(), 8, 8);
        z.seal();
        due("no frame was made", z.frameOf(8), -2);
    }

    @Told(promise = 20, words = "Throws `IndexOutOfBoundsException` if there is no such row")
    void p20noRow() {
        onlyFrom(0, 9, BOUNDS, Scene::busy, (x, row) -> x.frameOf(row));
        none(BOUNDS, () -> store(1, 4), (x, row) -> x.frameOf(row));
    }

    @Told(promise = 21, words = "Returns how many rows it has, ALIVE or not.")
    void p21rowsIn() {
        ColdFrame x = some();
        due("all ALIVE", x.rowsIn(0), 4);
        due("one is not", x.rowsIn(1), 4);
        due("none is", killed(some(), 4, 7).rowsIn(1), 4);
        x.cluster(1, 0);
        due("left out", x.rowsIn(1), 3);
        due("64", counted(64, 64).rowsIn(0), 64);
        x.seal();
        due("one", x.rowsIn(2), 1);
    }

    @Told(promise = 21, words = "Throws `IndexOutOfBoundsException` if there is no such frame")
    void p21noFrame() {
        onlyFrom(0, 1, BOUNDS, Scene::busy, (x, frame) -> x.rowsIn(frame));
        none(BOUNDS, () -> counted(4, 3), (x, frame) -> x.rowsIn(frame));
        refused("one that is gone", BOUNDS, () -> gone(some()), x -> x.rowsIn(1));
    }

    @Told(promise = 22, words = "a place in it, from 0")
    void p22places() {
        ColdFrame x = some();
        due("the first one", x.rowAt(1, 0), 4);
        due("the last one", x.rowAt(1, 3), 7);
        refused("ahead of the first one", BOUNDS, AskedEdges::some, y -> y.rowAt(1, -1));
        refused("behind the last one", BOUNDS, AskedEdges::some, y -> y.rowAt(1, 4));
    }

    @Told(promise = 22, words = "Returns the number of the row there.")
    void p22row() {
        ColdFrame x = oneColumn(4, 4, 3, 2, 1);
        due("as they were added", rowsOf(x, 0), "0 1 2 3");
        x.cluster(0, 0);
        due("as they lie", rowsOf(x, 0), "3 2 1 0");
        due("not ALIVE", some().rowAt(1, 1), 5);
    }

    @Told(promise = 22, words = "Throws `IndexOutOfBoundsException` if there is no such frame")
    void p22noFrame() {
        onlyFrom(0, 1, BOUNDS, Scene::busy, (x, frame) -> x.rowAt(frame, 3));
        none(BOUNDS, () -> counted(4, 3), (x, frame) -> x.rowAt(frame, 0));
    }

    @Told(promise = 22, words = "or no such place in it")
    void p22noPlace() {
        onlyFrom(0, 3, BOUNDS, Scene::busy, (x, place) -> x.rowAt(0, place));
        onlyFrom(0, 0, BOUNDS, () -> oneFrame(7), (x, place) -> x.rowAt(0, place));
        onlyFrom(0, 63, BOUNDS, () -> counted(64, 64), (x, place) -> x.rowAt(0, place));
        onlyFrom(0, 2, BOUNDS, AskedEdges::threeLeft, (x, place) -> x.rowAt(1, place));
    }

    private static ColdFrame threeLeft() {
        ColdFrame x = some();
        x.cluster(1, 0);
        return x;
    }
}
