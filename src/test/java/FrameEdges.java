/** Promises 9 to 11: frames clustered and merged, columns indexed. */
final class FrameEdges extends Edges {
    /** Three frames of four rows and one row in the BUFFER. */
    private static ColdFrame three() {
        return counted(4, 13);
    }

    /** Two frames: all rows of the first, and so many of the second, which has 32, are ALIVE. */
    private static ColdFrame twoWith(int first, int second) {
        ColdFrame x = counted(first, first);
        x.setSize(32);
        for (int i = 0; i < 32; i++) {
            row(x, i);
        }
        return killed(x, first + second, first + 31);
    }

    /** Column 0 goes up and down, column 1 rises by 1: 18 and 17 bytes; clustered by 0, 12 and 57. */
    private static ColdFrame waves() {
        ColdFrame x = store(2, 64);
        for (int i = 0; i < 64; i++) {
            row(x, i % 2 * MILLION, i);
        }
        return x;
    }

    /** 10 and 13 bytes; clustered by column 1, 10 and 12. */
    private static ColdFrame steps() {
        ColdFrame x = store(2, 4);
        row(x, 1, 100);
        row(x, 2, 300);
        row(x, 3, 200);
        row(x, 4, 400);
        return x;
    }

    // ---- 9

    @Told(promise = 9, words = "NULL first")
    void p09nullFirst() {
        ColdFrame x = oneFrame(0, null, MIN, null);
        x.cluster(0, 0);
        due("ahead of the least int", rowsOf(x, 0), "1 3 2 0");
        ColdFrame y = oneFrame(1, 0, null);
        y.cluster(0, 0);
        due("ahead of 0", rowsOf(y, 0), "2 1 0");
    }

    @Told(promise = 9, words = "then by rising values")
    void p09rising() {
        ColdFrame x = oneFrame(MAX, 1, 0, -1, MIN, MAX - 1, MIN + 1);
        x.cluster(0, 0);
        due("from the least int to the greatest", rowsOf(x, 0), "4 6 3 2 1 5 0");
        ColdFrame y = oneFrame(1, 2, 3, 4);
        y.cluster(0, 0);
        due("they rise already", rowsOf(y, 0), "0 1 2 3");
        ColdFrame z = oneFrame(7);
        z.cluster(0, 0);
        due("one row", rowsOf(z, 0), "0");
        ColdFrame w = counted(64, 1);
        for (int i = 1; i < 64; i++) {
            row(w, -i);
        }
        w.cluster(0, 0);
        due("64 rows, the first one", w.rowAt(0, 0), 63);
        due("64 rows, the last one", w.rowAt(0, 63), 0);
    }

    @Told(promise = 9, words = "the same ones as they were")
    void p09asTheyWere() {
        ColdFrame x = store(2, 6);
        Integer[][] rows = {{5, 3}, {null, 2}, {5, 1}, {null, 1}, {5, 2}, {4, 9}};
        for (Integer[] values : rows) {
            row(x, values);
        }
        x.cluster(0, 0);
        due("as they were added", rowsOf(x, 0), "1 3 5 0 2 4");
        x.cluster(0, 1);
        due("as they lay", rowsOf(x, 0), "3 2 1 4 0 5");
        x.cluster(0, 0);
        due("as they lay then", rowsOf(x, 0), "3 1 5 2 4 0");
    }

    @Told(promise = 9, words = "Rows that are not ALIVE are left out of the frame first")
    void p09deadLeftOut() {
        String[] due = {"3 2 1", "3 2 0", "3 1 0", "2 1 0"};
        for (int dead = 0; dead < 4; dead++) {
            ColdFrame x = oneFrame(4, 3, 2, 1);
            x.delete(dead);
            x.cluster(0, 0);
            due("without row " + dead, rowsOf(x, 0), due[dead]);
            due("it is in none any more", x.frameOf(dead), -2);
        }
        ColdFrame x = killed(oneFrame(4, 3, 2, 1), 0, 2);
        x.cluster(0, 0);
        due("one is left", rowsOf(x, 0), "3");
    }

    @Told(promise = 9, words = "if none is left, the frame is gone, and those behind it have numbers less by 1")
    void p09gone() {
        int[][] numbers = {{-2, 0, 1}, {0, -2, 1}, {0, 1, -2}};
        for (int gone = 0; gone < 3; gone++) {
            ColdFrame x = killed(three(), 4 * gone, 4 * gone + 3);
            due("ahead of it", lie(x), "4 4 4 + 1");
            x.cluster(gone, 0);
            due("without frame " + gone, lie(x), "4 4 + 1");
            for (int f = 0; f < 3; f++) {
                due("row " + 4 * f, x.frameOf(4 * f), numbers[gone][f]);
                due("row " + (4 * f + 3), x.frameOf(4 * f + 3), numbers[gone][f]);
            }
            due("the BUFFER", x.frameOf(12), -1);
        }
        ColdFrame x = killed(three(), 0, 2);
        x.cluster(0, 0);
        due("one is left", lie(x), "1 4 4 + 1");
        due("the number behind it", x.frameOf(4), 1);
        ColdFrame y = killed(counted(4, 4), 0, 3);
        y.cluster(0, 0);
        due("the only frame", lie(y), "+ 0");
    }

    @Told(promise = 9, words = "Returns how many bytes less the frame takes then")
    void p09bytesLess() {
        ColdFrame x = waves();
        due("as it is already", x.cluster(0, 1), 0);
        x.cluster(0, 0);
        due("less", x.cluster(0, 1), 34);
        due("as bytes() tells", x.bytes(0), 35);
        due("one byte less", steps().cluster(0, 1), 23 - 22);
        ColdFrame y = oneFrame(1, 2);
        y.delete(0);
        due("as a row is left out", y.cluster(0, 0), 8 - 4);
    }

    @Told(promise = 9, words = "(0 bytes, if it is gone)")
    void p09bytesOfNone() {
        due("all its bytes", killed(oneFrame(1, 2), 0, 1).cluster(0, 0), 8);
        due("of one row", killed(oneFrame(1), 0, 0).cluster(0, 0), 4);
        due("one row is left", killed(oneFrame(1, 2, 3), 0, 1).cluster(0, 0), 10 - 4);
    }

    @Told(promise = 9, words = "(less than 0, if more")
    void p09bytesMore() {
        ColdFrame x = waves();
        due("more", x.cluster(0, 0), 35 - 69);
        due("as bytes() tells", x.bytes(0), 69);
        due("no more of them", x.cluster(0, 0), 0);
        ColdFrame y = steps();
        y.cluster(0, 1);
        due("one byte more", y.cluster(0, 0), 22 - 23);
    }

    @Told(promise = 9, words = "Throws `IndexOutOfBoundsException` if there is no such frame or column")
    void p09noFrameOrColumn() {
        onlyFrom(0, 2, BOUNDS, FrameEdges::three, (x, frame) -> x.cluster(frame, 0));
        onlyFrom(0, 1, BOUNDS, Scene::busy, (x, column) -> x.cluster(1, column));
        none(BOUNDS, () -> counted(4, 3), (x, frame) -> x.cluster(frame, 0));
        none(BOUNDS, ColdFrame::new, (x, frame) -> x.cluster(frame, 0));
        refused("neither", BOUNDS, Scene::busy, x -> x.cluster(2, 2));
        refused("a frame that is gone", BOUNDS, FrameEdges::twoLeft, x -> x.cluster(2, 0));
    }

    private static ColdFrame twoLeft() {
        ColdFrame x = killed(three(), 0, 3);
        x.cluster(0, 0);
        return x;
    }

    // ---- 10

    @Told(promise = 10, words = "the rows of both that are ALIVE, in order")
    void p10rowsOfBoth() {
        ColdFrame x = oneColumn(4, 4, 3, 2, 1, 8, 7, 6, 5);
        x.cluster(0, 0);
        x.merge(0);
        due("all, as they lay", rowsOf(x, 0), "3 2 1 0 4 5 6 7");
        String[] due = {"1 2 3 4 5 6 7", "0 1 2 4 5 6 7", "0 1 2 3 5 6 7", "0 1 2 3 4 5 6"};
        int[] dead = {0, 3, 4, 7};
        for (int i = 0; i < 4; i++) {
            ColdFrame y = counted(4, 8);
            y.delete(dead[i]);
            y.merge(0);
            due("without row " + dead[i], rowsOf(y, 0), due[i]);
            due("it is in none any more", y.frameOf(dead[i]), -2);
        }
        ColdFrame y = killed(counted(4, 8), 0, 3);
        y.merge(0);
        due("only the second one's", rowsOf(y, 0), "4 5 6 7");
        ColdFrame z = killed(counted(4, 8), 4, 7);
        z.merge(0);
        due("only the first one's", rowsOf(z, 0), "0 1 2 3");
    }

    @Told(promise = 10, words = "Those behind them have numbers less by 1")
    void p10lessBy1() {
        ColdFrame x = three();
        x.merge(0);
        due("the first two", lie(x), "8 4 + 1");
        due("a row of the second one", x.frameOf(7), 0);
        due("a row behind them", x.frameOf(8), 1);
        due("the last row behind them", x.frameOf(11), 1);
        due("the BUFFER", x.frameOf(12), -1);
        ColdFrame y = three();
        y.merge(1);
        due("the last two", lie(y), "4 8 + 1");
        due("a row ahead of them", y.frameOf(3), 0);
        due("a row of the last one", y.frameOf(8), 1);
        ColdFrame z = killed(three(), 1, 7);
        z.merge(0);
        due("one row is left", lie(z), "1 4 + 1");
        due("a row behind them", z.frameOf(8), 1);
    }

    @Told(promise = 10, words = "(by 2, if no row is left: then the frame is gone, too)")
    void p10lessBy2() {
        ColdFrame x = killed(three(), 0, 7);
        x.merge(0);
        due("the first two", lie(x), "4 + 1");
        due("a row that was there", x.frameOf(7), -2);
        due("a row behind them", x.frameOf(8), 0);
        due("the BUFFER", x.frameOf(12), -1);
        ColdFrame y = killed(three(), 4, 11);
        y.merge(1);
        due("the last two", lie(y), "4 + 1");
        due("a row ahead of them", y.frameOf(3), 0);
        ColdFrame z = killed(counted(4, 8), 0, 7);
        z.merge(0);
        due("all of them", lie(z), "+ 0");
    }

    @Told(promise = 10, words = "Returns how many rows it has.")
    void p10howMany() {
        due("all", three().merge(0), 8);
        due("one", killed(three(), 1, 7).merge(0), 1);
        due("none", killed(three(), 0, 7).merge(0), 0);
        due("64", twoWith(32, 32).merge(0), 64);
    }

    @Told(promise = 10, words = "Throws `IndexOutOfBoundsException` if there is no such frame")
    void p10noFrame() {
        onlyFrom(0, 1, BOUNDS, FrameEdges::three, (x, frame) -> x.merge(frame));
        refused("one behind the last", BOUNDS, FrameEdges::three, x -> x.merge(3));
        none(BOUNDS, ColdFrame::new, (x, frame) -> x.merge(frame));
        none(BOUNDS, () -> counted(4, 3), (x, frame) -> x.merge(frame));
    }

    @Told(promise = 10, words = "or none behind it")
    void p10noneBehind() {
        answered("the last but one", FrameEdges::three, x -> x.merge(1));
        refused("the last one", BOUNDS, FrameEdges::three, x -> x.merge(2));
        refused("the only one", BOUNDS, () -> counted(4, 4), x -> x.merge(0));
        refused("the BUFFER is no frame", BOUNDS, () -> counted(4, 7), x -> x.merge(0));
    }

    @Told(promise = 10, words = "Throws `IllegalStateException` if that would be more than 64")
    void p10moreThan64() {
        due("63", twoWith(33, 30).merge(0), 63);
        due("64", twoWith(33, 31).merge(0), 64);
        refused("65", STATE, () -> twoWith(33, 32), x -> x.merge(0));
        refused("96", STATE, () -> twoWith(64, 32), x -> x.merge(0));
        due("rows that are not ALIVE do not count", killed(twoWith(64, 32), 0, 31).merge(0), 64);
        refused("65 of 96 are ALIVE", STATE, () -> killed(twoWith(64, 32), 1, 31), x -> x.merge(0));
        due("64 and none", twoWith(64, 0).merge(0), 64);
        refused("64 and one", STATE, () -> twoWith(64, 1), x -> x.merge(0));
    }

    // ---- 11

    @Told(promise = 11, words = "Indexes a column, or ends this.")
    void p11onAndOff() {
        ColdFrame x = oneFrame(1, 2);
        x.index(0);
        due("on", x.bitmapBytes(), 2);
        x.index(0);
        due("off", x.bitmapBytes(), 0);
        x.index(0);
        due("on again", x.bitmapBytes(), 2);
        ColdFrame y = store(1, 4);
        y.index(0);
        for (int i = 0; i < 4; i++) {
            row(y, i);
        }
        due("ahead of the first row", y.bitmapBytes(), 4);
    }

    @Told(promise = 11, words = "Returns whether it is INDEXED then.")
    void p11then() {
        ColdFrame x = store(2, 4);
        due("on", x.index(1), true);
        due("the other one, on", x.index(0), true);
        due("off", x.index(1), false);
        due("on again", x.index(1), true);
        due("the other one, off", x.index(0), false);
    }

    @Told(promise = 11, words = "Throws `IndexOutOfBoundsException` if there is no such column")
    void p11noColumn() {
        onlyFrom(0, 1, BOUNDS, Scene::busy, (x, column) -> x.index(column));
        onlyFrom(0, 7, BOUNDS, () -> store(8, 4), (x, column) -> x.index(column));
        none(BOUNDS, ColdFrame::new, (x, column) -> x.index(column));
    }
}
