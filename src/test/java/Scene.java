/** What the tests share: stores to start from, and how the rows of these read. */
abstract class Scene {
    static final Class<IllegalStateException> STATE = IllegalStateException.class;
    static final Class<IllegalArgumentException> ARGUMENT = IllegalArgumentException.class;
    static final Class<IndexOutOfBoundsException> BOUNDS = IndexOutOfBoundsException.class;
    static final int MIN = Integer.MIN_VALUE;
    static final int MAX = Integer.MAX_VALUE;
    static final int MILLION = 1000000;

    static ColdFrame store(int columns, int size) {
        ColdFrame x = new ColdFrame();
        for (int c = 0; c < columns; c++) {
            x.addColumn();
        }
        x.setSize(size);
        return x;
    }

    /** Null stands for NULL. */
    static int row(ColdFrame x, Integer... values) {
        for (int c = 0; c < values.length; c++) {
            if (values[c] != null) {
                x.give(c, values[c]);
            }
        }
        return x.add();
    }

    static ColdFrame oneColumn(int size, Integer... values) {
        ColdFrame x = store(1, size);
        for (Integer value : values) {
            row(x, value);
        }
        return x;
    }

    /** One column, all in one frame. */
    static ColdFrame oneFrame(Integer... values) {
        ColdFrame x = oneColumn(64, values);
        if (x.inBuffer() > 0) {
            x.seal();
        }
        return x;
    }

    static ColdFrame found(Integer... values) {
        ColdFrame x = oneColumn(64, values);
        x.find();
        return x;
    }

    /** One column with 0, 1, 2 and so on. */
    static ColdFrame counted(int size, int rows) {
        ColdFrame x = store(1, size);
        for (int i = 0; i < rows; i++) {
            row(x, i);
        }
        return x;
    }

    static Integer[] times(int count, Integer value) {
        Integer[] values = new Integer[count];
        java.util.Arrays.fill(values, value);
        return values;
    }

    static Integer[] joined(Integer[] first, Integer... second) {
        Integer[] all = java.util.Arrays.copyOf(first, first.length + second.length);
        System.arraycopy(second, 0, all, first.length, second.length);
        return all;
    }

    /** From the first row to the last one. */
    static ColdFrame killed(ColdFrame x, int first, int last) {
        for (int r = first; r <= last; r++) {
            x.delete(r);
        }
        return x;
    }

    /** The frame's rows, in order. */
    static String rowsOf(ColdFrame x, int frame) {
        StringBuilder rows = new StringBuilder();
        for (int i = 0; i < x.rowsIn(frame); i++) {
            rows.append(i == 0 ? "" : " ").append(x.rowAt(frame, i));
        }
        return rows.toString();
    }

    /** The RESULT's rows, in order. */
    static String result(ColdFrame x) {
        StringBuilder rows = new StringBuilder();
        for (int i = 0; i < x.found(); i++) {
            rows.append(i == 0 ? "" : " ").append(x.foundAt(i));
        }
        return rows.toString();
    }

    /** How many rows each frame has, then how many the BUFFER. */
    static String lie(ColdFrame x) {
        StringBuilder counts = new StringBuilder();
        for (int f = 0; f < x.frames(); f++) {
            counts.append(x.rowsIn(f)).append(' ');
        }
        return counts.append("+ ").append(x.inBuffer()).toString();
    }

    /** Some of all that there is, so that a call that changes what it must not is seen. */
    static ColdFrame busy() {
        ColdFrame x = store(2, 4);
        Integer[][] rows = {
            {5, 1}, {null, 2}, {5, 3}, {-7, null}, {9, 2}, {9, 9}, {1, 4}, {2, 2}, {3, 3}, {null, 6},
        };
        for (Integer[] values : rows) {
            row(x, values);
        }
        x.delete(2);
        x.delete(9);
        x.index(1);
        x.find();
        x.keep();
        x.where(0, 4, 1);
        x.where(1, 3, 4);
        x.orElse();
        x.where(1, 6, 0);
        x.find();
        x.sort(0, true);
        x.limit(3);
        x.give(1, 77);
        return x;
    }
}
