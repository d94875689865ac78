/** What the terms tell of the table, and promises 1 to 8: columns, rows, the BUFFER as it is sealed. */
final class TableEdges extends Edges {
    /** One column and 255 rows; the 511th call after it was made has added the last of these. */
    private static ColdFrame usedFor511Calls() {
        ColdFrame x = new ColdFrame();
        x.addColumn();
        for (int call = 2; call < 511; call += 2) {
            x.give(0, call);
            x.add();
        }
        return x;
    }

    /** By more calls than 512, whose answers are free; tested as if they were not. */
    private static ColdFrame with600() {
        return counted(64, 600);
    }

    private static ColdFrame with599() {
        return counted(64, 599);
    }

    /** Three columns; the next row was given a value, but not added. */
    private static ColdFrame givenOne() {
        ColdFrame x = store(3, 4);
        x.give(1, 5);
        return x;
    }

    /** One row, deleted and sealed away. */
    private static ColdFrame goneRow() {
        ColdFrame x = killed(counted(4, 1), 0, 0);
        x.seal();
        return x;
    }

    private static ColdFrame changedOnce() {
        ColdFrame x = counted(8, 2);
        x.change(0, 0, 4);
        return x;
    }

    private static ColdFrame resized(int rows, int size) {
        ColdFrame x = counted(64, rows);
        x.setSize(size);
        return x;
    }

    // ---- the terms

    @Told(promise = TERMS, words = "An object is used for at most 512 calls after it has been made")
    void t01lastPromisedCall() {
        due("call 512 is rows", usedFor511Calls().rows(), 255);
        due("call 512 is add", usedFor511Calls().add(), 255);
        due("call 512 is frames", usedFor511Calls().frames(), 7);
        due("call 512 is inBuffer", usedFor511Calls().inBuffer(), 255 - 7 * 32);
        due("call 512 is seal", usedFor511Calls().seal(), 31);
        due("call 512 is find", usedFor511Calls().find(), 255);
        due("call 512 is valueOf", usedFor511Calls().valueOf(254, 0), 510);
        due("call 512 is change", usedFor511Calls().change(0, 0, 0), 255);
        due("call 512 is merge", usedFor511Calls().merge(5), 64);
        due("call 512 is delete", usedFor511Calls().delete(254), true);
        thrown("call 512 is wrong", BOUNDS, usedFor511Calls(), x -> x.isAlive(255));
    }

    @Told(promise = TERMS, words = "at most 8 COLUMNS, numbered from 0")
    void t02columns() {
        ColdFrame x = new ColdFrame();
        for (int c = 0; c < 8; c++) {
            due("column", x.addColumn(), c);
        }
        due("the first one", x.give(0, 1), 1);
        due("the last one", x.give(7, 1), 2);
        refused("a ninth", STATE, () -> store(8, 4), ColdFrame::addColumn);
        refused("one behind the last", BOUNDS, () -> store(8, 4), y -> y.give(8, 1));
        refused("one ahead of the first", BOUNDS, () -> store(8, 4), y -> y.give(-1, 1));
    }

    @Told(promise = TERMS, words = "added ahead of the first row")
    void t03aheadOfTheFirstRow() {
        due("no row yet", store(1, 4).addColumn(), 1);
        refused("behind one row", STATE, () -> counted(4, 1), ColdFrame::addColumn);
    }

    @Told(promise = TERMS, words = "at most 600 ROWS")
    void t04rows() {
        ColdFrame x = with599();
        due("row 599", x.add(), 599);
        due("rows", x.rows(), 600);
        due("all are found", x.find(), 600);
        due("the last one", x.foundAt(599), 599);
        x.find();
        due("sorted, NULL is behind the other 599", x.sort(0, true), 598);
        due("the last group", x.ofGroup(0, x.groups(0) - 1, 0, 1), 1);
        due("each with itself, but NULL", x.keep() + x.pairs(0, 0), 600 + 599);
        refused("row 600", STATE, TableEdges::with600, ColdFrame::add);
        refused("row 600 by a change", STATE, TableEdges::with600, y -> y.change(599, 0, 0));
    }

    @Told(promise = TERMS, words = "which have numbers from 0 as they are added")
    void t05rowNumbers() {
        ColdFrame x = store(1, 4);
        due("first", x.add(), 0);
        due("second", x.add(), 1);
        x.delete(1);
        due("behind a deleted one", x.add(), 2);
        due("by a change", x.change(0, 0, 5), 3);
        due("behind rows that are in none any more", x.add(), 4);
    }

    @Told(promise = TERMS, words = "a row is ALIVE till it is deleted")
    void t06alive() {
        ColdFrame x = counted(4, 3);
        due("in the BUFFER", x.isAlive(2), true);
        row(x, 3);
        x.cluster(0, 0);
        due("in a frame", x.isAlive(2), true);
        x.delete(2);
        due("as soon as it is deleted", x.isAlive(2), false);
        due("the one ahead of it", x.isAlive(1), true);
        due("the one behind it", x.isAlive(3), true);
        x.cluster(0, 0);
        due("in none any more", x.isAlive(2), false);
    }

    @Told(promise = TERMS, words = "Of each column a row has a value, an int, or NULL")
    void t07values() {
        Integer[] values = {MIN, MAX, 0, null, -1};
        ColdFrame x = oneColumn(4, values);
        for (int r = 0; r < values.length; r++) {
            due("NULL, row " + r, x.isNull(r, 0), values[r] == null);
            due("value, row " + r, x.valueOf(r, 0), values[r] == null ? 0 : values[r]);
        }
    }

    @Told(promise = TERMS, words = "in an order (of what is in them, and of frames, numbered from 0)")
    void t08order() {
        ColdFrame x = counted(4, 12);
        due("frame 0", rowsOf(x, 0), "0 1 2 3");
        due("frame 1", rowsOf(x, 1), "4 5 6 7");
        due("frame 2", rowsOf(x, 2), "8 9 10 11");
        due("the first frame's number", x.frameOf(0), 0);
        due("the last frame's number", x.frameOf(11), 2);
    }

    @Told(promise = TERMS, words = "which takes new rows at its end")
    void t09endOfTheBuffer() {
        ColdFrame x = oneColumn(64, 9, 8, 7);
        x.change(0, 0, 1);
        row(x, 0);
        x.find();
        due("as they were added", result(x), "1 2 3 4");
        x.seal();
        due("sealed", rowsOf(x, 0), "1 2 3 4");
    }

    @Told(promise = TERMS, words = "There is a SIZE, 4 to 64")
    void t10sizes() {
        for (int size : new int[] {4, 5, 63, 64}) {
            due("one row less than " + size, lie(counted(size, size - 1)), "+ " + (size - 1));
            due("as many rows as " + size, lie(counted(size, size)), size + " + 0");
            due("one row more than " + size, lie(counted(size, size + 1)), size + " + 1");
        }
        refused("3", ARGUMENT, () -> counted(5, 4), x -> x.setSize(3));
        refused("65", ARGUMENT, () -> counted(5, 4), x -> x.setSize(65));
    }

    @Told(promise = TERMS, words = "(32, at first)")
    void t11sizeAtFirst() {
        ColdFrame x = new ColdFrame();
        x.addColumn();
        for (int i = 0; i < 31; i++) {
            x.add();
        }
        due("31 rows", lie(x), "+ 31");
        x.add();
        due("32 rows", lie(x), "32 + 0");
        x.add();
        due("33 rows", lie(x), "32 + 1");
        due("32", new ColdFrame().setSize(4), 32);
    }

    @Told(promise = TERMS, words = "once the BUFFER has as many rows, it is SEALED")
    void t12asManyRows() {
        ColdFrame x = killed(counted(4, 3), 0, 2);
        due("three rows, none ALIVE", lie(x), "+ 3");
        x.add();
        due("a fourth one", lie(x), "1 + 0");
        due("which is the only one", rowsOf(x, 0), "3");
        ColdFrame y = counted(4, 2);
        y.change(0, 0, 5);
        due("a change adds a third one", lie(y), "+ 3");
        y.change(1, 0, 5);
        due("a change adds a fourth one", lie(y), "2 + 0");
    }

    @Told(promise = TERMS, words = "its rows that are ALIVE become, in order, a new frame, the last one")
    void t13sealedInOrder() {
        String[] due = {"1 2 3", "0 2 3", "0 1 3"};
        for (int dead = 0; dead < 3; dead++) {
            ColdFrame x = counted(4, 3);
            x.delete(dead);
            x.add();
            due("without row " + dead, rowsOf(x, 0), due[dead]);
        }
        ColdFrame x = counted(4, 4);
        due("all", rowsOf(x, 0), "0 1 2 3");
        row(x, 9);
        x.seal();
        due("the last frame", x.frameOf(4), 1);
        due("the one ahead of it", x.frameOf(3), 0);
    }

    @Told(promise = TERMS, words = "(none, if there are none)")
    void t14sealedNone() {
        ColdFrame x = killed(counted(5, 4), 0, 3);
        x.setSize(4);
        due("by its SIZE", lie(x), "+ 0");
        ColdFrame y = killed(counted(5, 8), 5, 7);
        due("behind a frame", y.seal(), 0);
        due("no new frame", lie(y), "5 + 0");
        ColdFrame z = killed(counted(5, 4), 1, 3);
        z.setSize(4);
        due("one is ALIVE", lie(z), "1 + 0");
    }

    @Told(promise = TERMS, words = "the BUFFER is empty then")
    void t15emptyThen() {
        ColdFrame x = counted(4, 3);
        x.delete(1);
        x.add();
        due("by add", x.inBuffer(), 0);
        due("those ALIVE are in the frame", x.frameOf(0), 0);
        due("those not ALIVE in none", x.frameOf(1), -2);
        row(x, 1);
        row(x, 2);
        due("it takes rows again", x.inBuffer(), 2);
        x.seal();
        due("by seal", x.inBuffer(), 0);
        due("without the rows ahead of it", rowsOf(x, 1), "4 5");
        row(x, 1);
        x.delete(6);
        x.seal();
        due("by seal, none ALIVE", x.inBuffer(), 0);
        row(x, 1);
        x.setSize(64);
        x.seal();
        due("nothing is left of them", rowsOf(x, 2), "7");
    }

    @Told(promise = TERMS, words = "A frame may keep rows that are not ALIVE any more")
    void t16deadRowsStay() {
        ColdFrame x = killed(counted(4, 4), 1, 3);
        due("one is ALIVE", rowsOf(x, 0), "0 1 2 3");
        due("one that is not", x.frameOf(1), 0);
    }

    @Told(promise = TERMS, words = "also these alone")
    void t17deadRowsAlone() {
        ColdFrame x = killed(counted(4, 8), 0, 3);
        due("none is ALIVE", rowsOf(x, 0), "0 1 2 3");
        due("two frames", x.frames(), 2);
        due("its number stays", x.frameOf(3), 0);
        due("the number of the one behind it stays", x.frameOf(4), 1);
    }

    // ---- 1 and 2

    @Told(promise = 1, words = "Creates a store without columns and rows.")
    void p01empty() {
        ColdFrame x = new ColdFrame();
        due("columns", x.columns(), 0);
        due("rows", x.rows(), 0);
        due("frames and BUFFER", lie(x), "+ 0");
        due("found", x.find(), 0);
        none(BOUNDS, ColdFrame::new, (y, column) -> y.give(column, 1));
        none(BOUNDS, ColdFrame::new, (y, row) -> y.isAlive(row));
        none(BOUNDS, ColdFrame::new, (y, frame) -> y.rowsIn(frame));
    }

    @Told(promise = 2, words = "Adds a column.")
    void p02column() {
        ColdFrame x = new ColdFrame();
        x.addColumn();
        due("one", x.columns(), 1);
        refused("not two", BOUNDS, () -> store(1, 4), y -> y.give(1, 1));
        x.addColumn();
        due("two", x.columns(), 2);
        answered("two", () -> store(2, 4), y -> y.give(1, 1));
    }

    @Told(promise = 2, words = "Returns its number.")
    void p02number() {
        due("the first one's", new ColdFrame().addColumn(), 0);
        due("the second one's", store(1, 4).addColumn(), 1);
        due("the eighth one's", store(7, 4).addColumn(), 7);
    }

    @Told(promise = 2, words = "Throws `IllegalStateException` if there are 8 columns")
    void p02eightColumns() {
        answered("7", () -> store(7, 4), ColdFrame::addColumn);
        refused("8", STATE, () -> store(8, 4), ColdFrame::addColumn);
    }

    @Told(promise = 2, words = "or any row was added")
    void p02anyRow() {
        answered("a row that was only given a value", TableEdges::givenOne, ColdFrame::addColumn);
        refused("one row", STATE, () -> counted(4, 1), ColdFrame::addColumn);
        refused("one row, deleted", STATE, () -> killed(counted(4, 1), 0, 0), ColdFrame::addColumn);
        refused("one row, in none any more", STATE, TableEdges::goneRow, ColdFrame::addColumn);
        refused("many rows", STATE, Scene::busy, ColdFrame::addColumn);
    }

    // ---- 3 and 4

    @Told(promise = 3, words = "Gives the next row, which is not added yet, a value")
    void p03nextRow() {
        ColdFrame x = store(2, 4);
        x.give(0, 5);
        due("not added yet", x.rows(), 0);
        x.add();
        due("the next row", x.valueOf(0, 0), 5);
        due("not the other column", x.isNull(0, 1), true);
        x.give(0, 6);
        due("not the row ahead of it", x.valueOf(0, 0), 5);
        x.add();
        x.add();
        due("not the row behind it", x.isNull(2, 0), true);
    }

    @Told(promise = 3, words = "in place of one that it was given there")
    void p03inItsPlace() {
        ColdFrame x = store(2, 4);
        x.give(0, 5);
        x.give(1, 8);
        x.give(0, 0);
        x.add();
        due("the latest one", x.valueOf(0, 0), 0);
        due("it is no NULL", x.isNull(0, 0), false);
        due("not in place of the other column's", x.valueOf(0, 1), 8);
    }

    @Told(promise = 3, words = "Returns of how many columns it has been given values.")
    void p03howMany() {
        ColdFrame x = store(8, 4);
        for (int c = 0; c < 8; c++) {
            due("column " + c, x.give(7 - c, 0), c + 1);
            due("once more", x.give(7 - c, 1), c + 1);
        }
        x.add();
        due("of the next row", x.give(3, 1), 1);
        ColdFrame y = givenOne();
        y.addColumn();
        due("one was given ahead of the last column", y.give(3, 1), 2);
    }

    @Told(promise = 3, words = "Throws `IndexOutOfBoundsException` if there is no such column")
    void p03noColumn() {
        onlyFrom(0, 2, BOUNDS, TableEdges::givenOne, (x, column) -> x.give(column, 9));
        onlyFrom(0, 7, BOUNDS, () -> store(8, 4), (x, column) -> x.give(column, 9));
        onlyFrom(0, 1, BOUNDS, Scene::busy, (x, column) -> x.give(column, 9));
        none(BOUNDS, ColdFrame::new, (x, column) -> x.give(column, 9));
    }

    @Told(promise = 4, words = "Adds the next row, with the values that it was given, NULL otherwise.")
    void p04values() {
        ColdFrame x = store(2, 4);
        x.add();
        due("none is given", x.isNull(0, 0) && x.isNull(0, 1), true);
        row(x, null, 0);
        due("one is given", x.isNull(1, 0) && !x.isNull(1, 1), true);
        row(x, 0, 0);
        due("all are given", x.isNull(2, 0) || x.isNull(2, 1), false);
        due("three rows", x.rows(), 3);
    }

    @Told(promise = 4, words = "Returns its number.")
    void p04number() {
        due("the first one's", store(1, 4).add(), 0);
        due("as the BUFFER is sealed", counted(4, 3).add(), 3);
        due("behind it", counted(4, 4).add(), 4);
    }

    @Told(promise = 4, words = "Throws `IllegalStateException` if there are no columns")
    void p04noColumns() {
        refused("no column", STATE, ColdFrame::new, ColdFrame::add);
        answered("one column", () -> store(1, 4), ColdFrame::add);
    }

    @Told(promise = 4, words = "or 600 rows were added")
    void p04after600() {
        answered("599 rows", TableEdges::with599, ColdFrame::add);
        refused("600 rows", STATE, TableEdges::with600, ColdFrame::add);
        refused("600 rows, none ALIVE", STATE, () -> killed(with600(), 0, 599), ColdFrame::add);
    }

    // ---- 5 and 6

    @Told(promise = 5, words = "Deletes a row.")
    void p05deletes() {
        ColdFrame x = counted(4, 6);
        x.delete(0);
        due("in a frame", x.isAlive(0), false);
        x.delete(5);
        due("in the BUFFER", x.isAlive(5), false);
        due("the other one in the BUFFER", x.isAlive(4), true);
        due("how many are ALIVE", x.alive(), 4);
        due("where they lie", lie(x), "4 + 2");
    }

    @Told(promise = 5, words = "Returns whether it was ALIVE.")
    void p05wasAlive() {
        ColdFrame x = counted(4, 6);
        due("ALIVE", x.delete(4), true);
        due("not any more", x.delete(4), false);
        due("nor the third time", x.delete(4), false);
        due("counted once", x.alive(), 5);
        due("in none any more", goneRow().delete(0), false);
        due("changed", changedOnce().delete(0), false);
        due("what it was changed to", changedOnce().delete(2), true);
    }

    @Told(promise = 5, words = "Throws `IndexOutOfBoundsException` if there is no such row")
    void p05noRow() {
        onlyFrom(0, 9, BOUNDS, Scene::busy, (x, row) -> x.delete(row));
        onlyFrom(0, 0, BOUNDS, TableEdges::goneRow, (x, row) -> x.delete(row));
        none(BOUNDS, TableEdges::givenOne, (x, row) -> x.delete(row));
    }

    @Told(promise = 6, words = "it is deleted, and then a new one is added")
    void p06deletedThenAdded() {
        ColdFrame x = counted(4, 2);
        x.change(0, 0, 9);
        due("one less than SIZE", lie(x), "+ 3");
        x.change(1, 0, 9);
        due("as many as SIZE, the deleted ones left out", lie(x), "2 + 0");
        due("those ALIVE", rowsOf(x, 0), "2 3");
        x.change(2, 0, 9);
        due("of a frame, into the BUFFER", lie(x), "2 + 1");
        due("how many are ALIVE", x.alive(), 2);
        due("which is not", x.isAlive(2), false);
        due("which is", x.isAlive(4), true);
    }

    @Told(promise = 6, words = "with the same values, but one")
    void p06values() {
        ColdFrame x = store(3, 8);
        row(x, 7, null, MIN);
        x.change(0, 2, MAX);
        due("the one", x.valueOf(1, 2), MAX);
        due("the same value", x.valueOf(1, 0), 7);
        due("the same NULL", x.isNull(1, 1), true);
        due("the deleted one's value stays", x.valueOf(0, 2), MIN);
        x.change(1, 1, 0);
        due("NULL becomes 0", x.isNull(2, 1), false);
        x.change(2, 0, 7);
        due("the one is the same", x.valueOf(3, 0), 7);
    }

    @Told(promise = 6, words = "(What the next row was given stays for the next one.)")
    void p06given() {
        ColdFrame x = oneColumn(8, 1, 2);
        x.give(0, 5);
        due("changed", x.change(0, 0, 6), 2);
        due("not what was given", x.valueOf(2, 0), 6);
        due("given the next one", x.valueOf(x.add(), 0), 5);
        due("nothing is given then", x.isNull(x.add(), 0), true);
    }

    @Told(promise = 6, words = "Returns the number of the new row.")
    void p06number() {
        due("of one row", counted(4, 1).change(0, 0, 0), 1);
        due("as the BUFFER is sealed", counted(4, 3).change(0, 0, 0), 3);
        due("of ten", busy().change(0, 0, 0), 10);
    }

    @Told(promise = 6, words = "Throws `IndexOutOfBoundsException` if there is no such row or column")
    void p06noRowOrColumn() {
        onlyFrom(0, 8, BOUNDS, () -> counted(4, 9), (x, row) -> x.change(row, 0, 1));
        onlyFrom(0, 1, BOUNDS, Scene::busy, (x, column) -> x.change(0, column, 1));
        none(BOUNDS, TableEdges::givenOne, (x, row) -> x.change(row, 0, 1));
        refused("neither", BOUNDS, Scene::busy, x -> x.change(10, 2, 1));
    }

    @Told(promise = 6, words = "Throws `IllegalStateException` if it is not ALIVE")
    void p06notAlive() {
        answered("ALIVE in a frame", Scene::busy, x -> x.change(3, 0, 1));
        answered("ALIVE in the BUFFER", Scene::busy, x -> x.change(8, 0, 1));
        refused("not ALIVE in a frame", STATE, Scene::busy, x -> x.change(2, 0, 1));
        refused("not ALIVE in the BUFFER", STATE, Scene::busy, x -> x.change(9, 0, 1));
        refused("in none any more", STATE, TableEdges::goneRow, x -> x.change(0, 0, 1));
        refused("a second time", STATE, TableEdges::changedOnce, x -> x.change(0, 0, 1));
    }

    @Told(promise = 6, words = "or 600 rows were added")
    void p06after600() {
        answered("599 rows", TableEdges::with599, x -> x.change(0, 0, 1));
        refused("600 rows", STATE, TableEdges::with600, x -> x.change(0, 0, 1));
        refused("600 rows, not ALIVE", STATE, () -> killed(with600(), 5, 5), x -> x.change(5, 0, 1));
        refused("600 rows, no such row", BOUNDS, TableEdges::with600, x -> x.change(600, 0, 1));
        refused("600 rows, no such column", BOUNDS, TableEdges::with600, x -> x.change(0, 1, 1));
    }

    // ---- 7 and 8

    @Told(promise = 7, words = "the SIZE from now on")
    void p07fromNowOn() {
        ColdFrame x = counted(64, 3);
        x.setSize(5);
        row(x, 3);
        due("one row less", lie(x), "+ 4");
        row(x, 4);
        due("as many", lie(x), "5 + 0");
        x.setSize(4);
        due("the frames stay as they are", lie(x), "5 + 0");
    }

    @Told(promise = 7, words = "a BUFFER with as many rows or more is SEALED at once")
    void p07sealedAtOnce() {
        due("one row less", lie(resized(5, 6)), "+ 5");
        due("as many rows", lie(resized(5, 5)), "5 + 0");
        due("one row more", lie(resized(5, 4)), "5 + 0");
        due("many rows more", lie(resized(63, 4)), "63 + 0");
        due("no rows", lie(resized(0, 4)), "+ 0");
        due("three rows", lie(resized(3, 4)), "+ 3");
        ColdFrame x = killed(counted(64, 5), 0, 3);
        x.setSize(6);
        due("not ALIVE, one row less", lie(x), "+ 5");
        x.setSize(5);
        due("not ALIVE, as many rows", lie(x), "1 + 0");
    }

    @Told(promise = 7, words = "Returns the one before.")
    void p07before() {
        ColdFrame x = new ColdFrame();
        due("32 at first", x.setSize(4), 32);
        due("4", x.setSize(64), 4);
        due("64", x.setSize(64), 64);
        due("64 again", x.setSize(5), 64);
        due("as it seals", counted(9, 8).setSize(8), 9);
    }

    @Told(promise = 7, words = "Throws `IllegalArgumentException` if size is not 4 to 64")
    void p07size() {
        onlyFrom(4, 64, ARGUMENT, Scene::busy, (x, size) -> x.setSize(size));
        onlyFrom(4, 64, ARGUMENT, ColdFrame::new, (x, size) -> x.setSize(size));
        refused("0", ARGUMENT, Scene::busy, x -> x.setSize(0));
    }

    @Told(promise = 8, words = "Seals the BUFFER.")
    void p08seals() {
        ColdFrame x = counted(4, 3);
        x.seal();
        due("one row less than SIZE", lie(x), "3 + 0");
        row(x, 3);
        x.seal();
        due("one row", lie(x), "3 1 + 0");
    }

    @Told(promise = 8, words = "Returns how many rows came into a new frame.")
    void p08howMany() {
        due("63", counted(64, 63).seal(), 63);
        due("one", counted(64, 1).seal(), 1);
        due("all but one", killed(counted(64, 3), 1, 1).seal(), 2);
        due("all but two", killed(counted(64, 3), 1, 2).seal(), 1);
        due("none", killed(counted(64, 3), 0, 2).seal(), 0);
    }

    @Told(promise = 8, words = "Throws `IllegalStateException` if the BUFFER has no rows, ALIVE or not")
    void p08noRows() {
        refused("a new object", STATE, ColdFrame::new, ColdFrame::seal);
        refused("just sealed", STATE, () -> counted(4, 4), ColdFrame::seal);
        refused("a value was given", STATE, TableEdges::givenOne, ColdFrame::seal);
        refused("none ALIVE were in it", STATE, TableEdges::goneRow, ColdFrame::seal);
        answered("one that is ALIVE", () -> counted(4, 5), ColdFrame::seal);
        answered("one that is not", () -> killed(counted(4, 5), 4, 4), ColdFrame::seal);
    }
}
