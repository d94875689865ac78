/** Each promise by hand: ordinary inputs, the edges that the document names, wrong inputs. */
public final class PromiseTest extends Scene {
    private final Check check = new Check();

    public static void main(String[] args) {
        PromiseTest test = new PromiseTest();
        test.columnsAndRows();
        test.framesMade();
        test.tableAsked();
        test.formsAndZones();
        test.conditions();
        test.plans();
        test.results();
        test.whatWouldBe();
        test.check.end("PromiseTest");
    }

    // ---- 1 to 8

    private void columnsAndRows() {
        p1newObject();
        p2addColumn();
        p3give();
        p4add();
        p4addUpTo600();
        p5delete();
        p6change();
        p6changeSeals();
        p7setSize();
        p8seal();
    }

    private void p1newObject() {
        ColdFrame x = new ColdFrame();
        check.due("1 columns", x.columns(), 0);
        check.due("1 rows", x.rows(), 0);
        check.due("1 alive", x.alive(), 0);
        check.due("1 frames", x.frames(), 0);
        check.due("1 inBuffer", x.inBuffer(), 0);
        check.due("1 size", x.setSize(32), 32);
        check.due("1 conditions", x.clear(), 0);
        check.due("1 found", x.found(), 0);
        check.due("1 find", x.find(), 0);
        ColdFrame other = new ColdFrame();
        other.addColumn();
        check.due("1 objects of their own", x.columns(), 0);
    }

    private void p2addColumn() {
        ColdFrame x = new ColdFrame();
        for (int c = 0; c < 8; c++) {
            check.due("2 addColumn", x.addColumn(), c);
        }
        check.refused("2 a ninth", x, STATE, x::addColumn);
        check.due("2 columns", x.columns(), 8);
        ColdFrame y = store(1, 4);
        y.give(0, 3);
        check.due("2 behind give", y.addColumn(), 1);
        y.add();
        check.due("2 what was given stays", y.valueOf(0, 0), 3);
        check.refused("2 behind a row", y, STATE, y::addColumn);
        y.delete(0);
        y.seal();
        check.refused("2 behind a row that is gone", y, STATE, y::addColumn);
    }

    private void p3give() {
        ColdFrame x = store(3, 4);
        check.due("3 first", x.give(1, 5), 1);
        check.due("3 in its place", x.give(1, 6), 1);
        check.due("3 second", x.give(0, MIN), 2);
        check.refused("3 column 3", x, BOUNDS, () -> x.give(3, 0));
        check.refused("3 column -1", x, BOUNDS, () -> x.give(-1, 0));
        check.refused("3 column MAX", x, BOUNDS, () -> x.give(MAX, 0));
        check.due("3 third", x.give(2, 0), 3);
        x.add();
        check.due("3 the latest value", x.valueOf(0, 1), 6);
        check.due("3 least int", x.valueOf(0, 0), MIN);
        check.due("3 a 0 is no NULL", x.isNull(0, 2), false);
        check.due("3 the next row", x.give(2, 1), 1);
        ColdFrame none = new ColdFrame();
        check.refused("3 without columns", none, BOUNDS, () -> none.give(0, 0));
    }

    private void p4add() {
        ColdFrame x = store(2, 4);
        check.due("4 first", row(x, 7, null), 0);
        check.due("4 NULL otherwise", x.isNull(0, 1), true);
        check.due("4 second", x.add(), 1);
        check.due("4 nothing given", x.isNull(1, 0), true);
        check.due("4 alive", x.isAlive(1), true);
        x.add();
        check.due("4 not sealed yet", x.frames() * 10 + x.inBuffer(), 3);
        check.due("4 fourth", row(x, 1, 2), 3);
        check.due("4 sealed", x.frames() * 10 + x.inBuffer(), 10);
        check.due("4 in order", rowsOf(x, 0), "0 1 2 3");
        ColdFrame y = store(1, 32);
        for (int i = 0; i < 32; i++) {
            check.due("4 frames at first", y.frames(), 0);
            y.add();
        }
        check.due("4 32 at first", y.rowsIn(0), 32);
        ColdFrame none = new ColdFrame();
        check.refused("4 without columns", none, STATE, none::add);
    }

    /** More than 512 calls: the answers are free then, but no other exception may come. */
    private void p4addUpTo600() {
        ColdFrame x = new ColdFrame();
        for (int c = 0; c < 8; c++) {
            x.addColumn();
        }
        x.setSize(64);
        for (int i = 0; i < 600; i++) {
            check.due("4 add", x.add(), i);
        }
        check.refused("4 row 601", x, STATE, x::add);
        check.refused("6 row 601", x, STATE, () -> x.change(0, 0, 0));
        check.due("4 give goes on", x.give(0, 1), 1);
        check.due("35 find all", x.find(), 600);
        check.due("48 keep all", x.keep(), 600);
        check.due("49 no pairs of NULL", x.pairs(0, 1), 0);
        check.due("46 one group", x.groups(3), 1);
        check.due("42 sort all", x.sort(1, true), 0);
        check.due("8 seal the rest", x.seal(), 600 % 64);
        ColdFrame y = store(1, 64);
        for (int i = 0; i < 600; i++) {
            row(y, -i);
        }
        y.find();
        check.due("46 600 groups", y.groups(0), 600);
        check.due("47 the last one", y.ofGroup(0, 599, 0, 1), 1);
        check.due("42 all turned round", y.sort(0, false), 599);
    }

    private void p5delete() {
        ColdFrame x = oneColumn(4, 1, 2, 3, 4, 5);
        check.due("5 alive", x.delete(1), true);
        check.due("5 not alive", x.delete(1), false);
        check.due("5 isAlive", x.isAlive(1), false);
        check.due("5 others", x.isAlive(0), true);
        check.due("5 count", x.alive(), 4);
        check.due("5 stays in the frame", x.rowsIn(0), 4);
        check.due("5 in the buffer", x.delete(4), true);
        check.due("5 stays in the buffer", x.inBuffer(), 1);
        check.due("5 its value stays", x.valueOf(1, 0), 2);
        check.refused("5 row 5", x, BOUNDS, () -> x.delete(5));
        check.refused("5 row -1", x, BOUNDS, () -> x.delete(-1));
        check.refused("5 row MIN", x, BOUNDS, () -> x.delete(MIN));
    }

    private void p6change() {
        ColdFrame x = store(3, 8);
        row(x, 1, null, 3);
        x.give(0, 77);
        check.due("6 number", x.change(0, 2, 30), 1);
        check.due("6 deleted", x.isAlive(0), false);
        check.due("6 alive", x.isAlive(1), true);
        check.due("6 the same value", x.valueOf(1, 0), 1);
        check.due("6 the same NULL", x.isNull(1, 1), true);
        check.due("6 the other value", x.valueOf(1, 2), 30);
        check.due("6 the old row's value", x.valueOf(0, 2), 3);
        check.due("6 a NULL", x.change(1, 1, 0), 2);
        check.due("6 is none then", x.isNull(2, 1), false);
        check.due("6 the same value again", x.change(2, 0, 1), 3);
        check.due("6 what was given stays", x.give(1, 5), 2);
        check.due("6 next", x.add(), 4);
        check.due("6 given ahead", x.valueOf(4, 0), 77);
        check.due("6 alive rows", x.alive(), 2);
        check.refused("6 not alive", x, STATE, () -> x.change(0, 0, 1));
        check.refused("6 no row", x, BOUNDS, () -> x.change(5, 0, 1));
        check.refused("6 row -1", x, BOUNDS, () -> x.change(-1, 0, 1));
        check.refused("6 no column", x, BOUNDS, () -> x.change(3, 3, 1));
        check.refused("6 column -1", x, BOUNDS, () -> x.change(3, -1, 1));
        check.refused("6 bounds ahead of state", x, BOUNDS, () -> x.change(0, 3, 1));
    }

    private void p6changeSeals() {
        ColdFrame x = oneColumn(4, 10, 20, 30);
        check.due("6 fourth in the buffer", x.change(1, 0, 40), 3);
        check.due("6 seals", x.frames(), 1);
        check.due("6 without the deleted one", rowsOf(x, 0), "0 2 3");
        check.due("6 nowhere", x.frameOf(1), -2);
        check.due("6 of a frame", x.change(0, 0, 11), 4);
        check.due("6 stays in its frame", x.frameOf(0), 0);
        check.due("6 comes into the buffer", x.frameOf(4), -1);
    }

    private void p7setSize() {
        ColdFrame x = new ColdFrame();
        check.due("7 first", x.setSize(4), 32);
        check.due("7 least", x.setSize(64), 4);
        check.due("7 greatest", x.setSize(33), 64);
        check.refused("7 3", x, ARGUMENT, () -> x.setSize(3));
        check.refused("7 65", x, ARGUMENT, () -> x.setSize(65));
        check.refused("7 MIN", x, ARGUMENT, () -> x.setSize(MIN));
        check.due("7 unchanged", x.setSize(10), 33);
        ColdFrame y = oneColumn(10, 1, 2, 3, 4, 5, 6);
        y.setSize(7);
        check.due("7 fewer rows", y.frames(), 0);
        y.setSize(6);
        check.due("7 as many", y.frames() * 10 + y.inBuffer(), 10);
        ColdFrame z = oneColumn(10, 1, 2, 3, 4, 5, 6);
        z.delete(0);
        z.setSize(4);
        check.due("7 more", z.frames() * 10 + z.inBuffer(), 10);
        check.due("7 the whole buffer", rowsOf(z, 0), "1 2 3 4 5");
        ColdFrame w = oneColumn(10, 1, 2, 3, 4);
        w.delete(2);
        w.setSize(4);
        check.due("7 rows not alive count", w.rowsIn(0), 3);
    }

    private void p8seal() {
        ColdFrame x = oneColumn(8, 1, 2, 3);
        check.due("8 all", x.seal(), 3);
        check.due("8 frame", x.frames() * 10 + x.inBuffer(), 10);
        check.refused("8 no rows", x, STATE, x::seal);
        row(x, 4);
        row(x, 5);
        x.delete(3);
        check.due("8 those alive", x.seal(), 1);
        check.due("8 the last frame", rowsOf(x, 1), "4");
        check.due("8 not in it", x.frameOf(3), -2);
        row(x, 6);
        x.delete(5);
        check.due("8 none alive", x.seal(), 0);
        check.due("8 no frame", x.frames() * 10 + x.inBuffer(), 20);
        check.due("8 gone", x.frameOf(5), -2);
        check.refused("8 empty then", x, STATE, x::seal);
        check.due("8 goes on", row(x, 7), 6);
        check.due("8 a fresh buffer", x.seal(), 1);
        check.due("8 its value", x.least(2, 0), 7);
    }

    // ---- 9 to 11

    private void framesMade() {
        p9cluster();
        p9clusterLeavesOut();
        p9bytesSaved();
        p10merge();
        p10mergeOfMany();
        p11index();
    }

    private void p9cluster() {
        ColdFrame x = oneFrame(5, null, 3, null, 5, MIN, MAX, -1);
        x.cluster(0, 0);
        check.due("9 NULL first, rising, the same as they were", rowsOf(x, 0), "1 3 5 7 2 0 4 6");
        check.due("9 runs anew", x.runs(0, 0), 6);
        check.refused("9 no frame", x, BOUNDS, () -> x.cluster(1, 0));
        check.refused("9 frame -1", x, BOUNDS, () -> x.cluster(-1, 0));
        check.refused("9 no column", x, BOUNDS, () -> x.cluster(0, 1));
        check.refused("9 column -1", x, BOUNDS, () -> x.cluster(0, -1));
        ColdFrame y = store(2, 4);
        row(y, 2, 1);
        row(y, 1, 2);
        row(y, 2, 0);
        row(y, 1, 1);
        y.cluster(0, 1);
        check.due("9 by another column", rowsOf(y, 0), "2 0 3 1");
        y.cluster(0, 0);
        check.due("9 as they were in the frame", rowsOf(y, 0), "3 1 2 0");
    }

    private void p9clusterLeavesOut() {
        ColdFrame x = oneColumn(4, 4, 3, 2, 1, 8, 7, 6, 5, 9);
        x.delete(1);
        x.cluster(0, 0);
        check.due("9 without the dead", rowsOf(x, 0), "3 2 0");
        check.due("9 nowhere", x.frameOf(1), -2);
        x.delete(0);
        x.delete(2);
        x.delete(3);
        check.due("9 dead ones alone stay", x.rowsIn(0), 3);
        check.due("9 gone: all the bytes", x.cluster(0, 0), 9 + 1);
        check.due("9 frames", x.frames(), 1);
        check.due("9 numbers less by 1", rowsOf(x, 0), "4 5 6 7");
        check.due("9 frameOf less by 1", x.frameOf(7), 0);
        check.due("9 buffer", x.frameOf(8), -1);
        check.due("9 none any more", x.frameOf(3), -2);
    }

    /** Column 0 goes up and down, column 1 rises by 1: 18 and 17 bytes, 12 and 57 clustered by 0. */
    private static ColdFrame wavesAndSteps() {
        ColdFrame x = store(2, 64);
        for (int i = 0; i < 64; i++) {
            row(x, i % 2 * MILLION, i);
        }
        return x;
    }

    private void p9bytesSaved() {
        ColdFrame x = wavesAndSteps();
        check.due("9 bytes ahead", x.bytes(0), 35);
        check.due("9 already so", x.cluster(0, 1), 0);
        check.due("9 more bytes", x.cluster(0, 0), -34);
        check.due("9 form of runs", x.formOf(0, 0), 2);
        check.due("9 form of the other", x.formOf(0, 1), 1);
        check.due("9 bytes behind", x.bytes(0), 69);
        check.due("9 fewer bytes", x.cluster(0, 1), 34);
        // Also without a change of order a frame takes less, if rows are left out.
        ColdFrame y = oneFrame(1, 2);
        y.delete(0);
        check.due("9 as rows are left out", y.cluster(0, 0), 4);
    }

    private void p10merge() {
        ColdFrame x = oneColumn(4, 4, 3, 2, 1, 8, 7, 6, 5, 12, 11, 10, 9, 13);
        x.delete(1);
        x.delete(6);
        check.due("10 rows", x.merge(0), 6);
        check.due("10 in order", rowsOf(x, 0), "0 2 3 4 5 7");
        check.due("10 frames", x.frames(), 2);
        check.due("10 behind them", x.frameOf(8), 1);
        check.due("10 came into the first", x.frameOf(7), 0);
        check.due("10 none any more", x.frameOf(6), -2);
        check.due("10 zone anew", x.greatest(0, 0), 8);
        check.due("10 rows of the zone", x.bytesAs(0, 0, 0), 24);
        check.refused("10 no frame behind", x, BOUNDS, () -> x.merge(1));
        check.refused("10 no frame", x, BOUNDS, () -> x.merge(2));
        check.refused("10 frame -1", x, BOUNDS, () -> x.merge(-1));
        check.refused("10 frame MAX", x, BOUNDS, () -> x.merge(MAX));
        ColdFrame none = store(1, 4);
        check.refused("10 no frames", none, BOUNDS, () -> none.merge(0));
        for (int r = 0; r < 8; r++) {
            x.delete(r);
        }
        check.due("10 only the second's", x.merge(0), 4);
        ColdFrame y = oneColumn(4, 1, 2, 3, 4, 5, 6, 7, 8, 9, 10, 11, 12);
        for (int r = 0; r < 8; r++) {
            y.delete(r);
        }
        check.due("10 no row left", y.merge(0), 0);
        check.due("10 both gone", y.frames(), 1);
        check.due("10 less by 2", y.frameOf(8), 0);
        check.due("10 gone", y.frameOf(7), -2);
    }

    private void p10mergeOfMany() {
        ColdFrame x = store(1, 32);
        for (int i = 0; i < 97; i++) {
            row(x, i);
        }
        check.due("10 just 64", x.merge(0), 64);
        check.refused("10 96", x, STATE, () -> x.merge(0));
        for (int r = 0; r < 31; r++) {
            x.delete(r);
        }
        check.refused("10 65", x, STATE, () -> x.merge(0));
        check.due("10 refused leaves the dead", x.rowsIn(0), 64);
        x.delete(95);
        check.due("10 those alive count", x.merge(0), 64);
        check.due("10 one frame", x.frames(), 1);
        check.due("10 last one", x.rowAt(0, 63), 94);
    }

    private void p11index() {
        ColdFrame x = store(2, 4);
        check.due("11 on", x.index(1), true);
        check.due("11 of its own", x.index(0), true);
        check.due("11 off", x.index(1), false);
        check.due("11 on again", x.index(1), true);
        check.refused("11 no column", x, BOUNDS, () -> x.index(2));
        check.refused("11 column -1", x, BOUNDS, () -> x.index(-1));
    }

    // ---- 12 to 22

    private void tableAsked() {
        p12to17counts();
        p18and19values();
        p20to22places();
    }

    private void p12to17counts() {
        ColdFrame x = store(3, 4);
        for (int i = 0; i < 6; i++) {
            row(x, i);
        }
        x.delete(0);
        x.delete(5);
        check.due("12 columns", x.columns(), 3);
        check.due("13 rows", x.rows(), 6);
        check.due("14 alive", x.alive(), 4);
        check.due("15 frames", x.frames(), 1);
        check.due("16 inBuffer", x.inBuffer(), 2);
        check.due("17 isAlive 0", x.isAlive(0), false);
        check.due("17 isAlive 4", x.isAlive(4), true);
        check.refused("17 row 6", x, BOUNDS, () -> x.isAlive(6));
        check.refused("17 row -1", x, BOUNDS, () -> x.isAlive(-1));
        x.change(1, 0, 9);
        check.due("13 a changed row counts", x.rows(), 7);
        check.due("14 but not twice", x.alive(), 4);
        check.due("16 in the buffer", x.inBuffer(), 3);
        check.due("12 columns still", x.columns(), 3);
    }

    private void p18and19values() {
        ColdFrame x = store(2, 4);
        row(x, null, MIN);
        row(x, 0, null);
        check.due("18 NULL", x.isNull(0, 0), true);
        check.due("18 none", x.isNull(0, 1), false);
        check.due("18 0 is none", x.isNull(1, 0), false);
        check.due("19 of NULL", x.valueOf(0, 0), 0);
        check.due("19 value", x.valueOf(0, 1), MIN);
        check.refused("18 no row", x, BOUNDS, () -> x.isNull(2, 0));
        check.refused("18 row -1", x, BOUNDS, () -> x.isNull(-1, 0));
        check.refused("18 no column", x, BOUNDS, () -> x.isNull(0, 2));
        check.refused("18 column -1", x, BOUNDS, () -> x.isNull(0, -1));
        check.refused("19 no row", x, BOUNDS, () -> x.valueOf(2, 0));
        check.refused("19 row -1", x, BOUNDS, () -> x.valueOf(-1, 0));
        check.refused("19 no column", x, BOUNDS, () -> x.valueOf(0, 2));
        check.refused("19 column -1", x, BOUNDS, () -> x.valueOf(0, -1));
        x.delete(0);
        x.seal();
        check.due("19 for ever", x.valueOf(0, 1), MIN);
        check.due("18 for ever", x.isNull(0, 0), true);
    }

    private void p20to22places() {
        ColdFrame x = oneColumn(4, 4, 3, 2, 1, 8, 7, 6, 5, 9);
        check.due("20 frame", x.frameOf(5), 1);
        check.due("20 buffer", x.frameOf(8), -1);
        x.delete(8);
        check.due("20 dead in the buffer", x.frameOf(8), -1);
        x.seal();
        check.due("20 in none", x.frameOf(8), -2);
        x.delete(5);
        check.due("20 dead in a frame", x.frameOf(5), 1);
        check.refused("20 no row", x, BOUNDS, () -> x.frameOf(9));
        check.refused("20 row -1", x, BOUNDS, () -> x.frameOf(-1));
        check.due("21 alive or not", x.rowsIn(1), 4);
        check.refused("21 no frame", x, BOUNDS, () -> x.rowsIn(2));
        check.refused("21 frame -1", x, BOUNDS, () -> x.rowsIn(-1));
        x.cluster(0, 0);
        check.due("22 first", x.rowAt(0, 0), 3);
        check.due("22 last", x.rowAt(0, 3), 0);
        check.due("22 dead ones too", x.rowAt(1, 1), 5);
        check.refused("22 no frame", x, BOUNDS, () -> x.rowAt(2, 0));
        check.refused("22 frame -1", x, BOUNDS, () -> x.rowAt(-1, 0));
        check.refused("22 no place", x, BOUNDS, () -> x.rowAt(0, 4));
        check.refused("22 place -1", x, BOUNDS, () -> x.rowAt(0, -1));
        x.cluster(1, 0);
        check.refused("22 a place that is gone", x, BOUNDS, () -> x.rowAt(1, 3));
    }

    // ---- 23 to 31

    private void formsAndZones() {
        p24bytesAs();
        p24bytesOfNulls();
        p24bytesAtTheEnds();
        p23formOf();
        p25bytes();
        p26bitmapBytes();
        p27to31zones();
        p27to31wrong();
    }

    private void forms(String what, ColdFrame x, int... bytes) {
        for (int form = 0; form < 5; form++) {
            check.due("24 " + what + " as " + form, x.bytesAs(0, 0, form), bytes[form]);
        }
        check.due("23 " + what, x.formOf(0, 0), bytes[5]);
        check.due("25 " + what, x.bytes(0), bytes[bytes[5]]);
    }

    private void p24bytesAs() {
        // The last number is the form.
        forms("three values", oneFrame(10, 10, 10, 12, 12, 11, 11, 11), 32, 11, 18, 16, 11, 1);
        forms("one row", oneFrame(42), 4, 9, 6, 6, 9, 0);
        forms("one value", oneFrame(7, 7, 7, 7), 16, 9, 6, 6, 9, 2);
        forms("waves", oneFrame(1, MILLION, 1, MILLION, 1, MILLION, 1, MILLION), 32, 29, 48, 11, 28, 3);
        Integer[] steps = new Integer[16];
        Integer[] down = new Integer[16];
        for (int i = 0; i < 16; i++) {
            steps[i] = 100 * i;
            down[i] = -100 * i;
        }
        forms("steps up", oneFrame(steps), 64, 31, 96, 74, 24, 4);
        forms("steps down", oneFrame(down), 64, 31, 96, 74, 24, 4);
        // 1 up is f = 1 and 1 down is f = 2: one bit, and two.
        forms("a step up", oneFrame(4, 5), 8, 10, 12, 11, 10, 0);
        forms("a step of 64 up", oneFrame(0, 64), 8, 11, 12, 11, 10, 0);
        forms("a step of 64 down", oneFrame(64, 0), 8, 11, 12, 11, 10, 0);
        forms("a step of 128 down", oneFrame(128, 0), 8, 11, 12, 11, 11, 0);
        forms("a step of 128 up", oneFrame(0, 128), 8, 11, 12, 11, 10, 0);
    }

    private void p24bytesOfNulls() {
        forms("nulls", oneFrame(null, null, 5, 5, 5, null, 7, 7), 33, 11, 24, 12, -1, 1);
        forms("all NULL", oneFrame(null, null, null, null), 17, -1, 6, 2, -1, 3);
        forms("a NULL alone", oneFrame((Integer) null), 5, -1, 6, 2, -1, 3);
        // Nine rows: two bytes of marks; 0 to 3 and NULL: three bits each.
        forms("nine rows", oneFrame(0, 1, 2, 3, null, 3, 2, 1, 0), 38, 13, 54, 22, -1, 1);
        // NULL between 0 and 0 is no 0, though valueOf tells so.
        forms("NULL and 0", oneFrame(0, null, 0, null), 17, 10, 24, 7, -1, 3);
    }

    private void p24bytesAtTheEnds() {
        // 2 * (2^32 - 1) - 1 takes 33 bits; so does 2^32 - 1 and one more for NULL.
        forms("the ends", oneFrame(MIN, MAX), 8, 17, 12, 11, 14, 0);
        forms("the ends, falling", oneFrame(MAX, MIN), 8, 17, 12, 11, 14, 0);
        forms("the ends and NULL", oneFrame(MIN, null, MAX), 13, 22, 18, 11, -1, 3);
        // 2^31 takes 32 bits.
        forms("half the way", oneFrame(MIN, 0), 8, 17, 12, 11, 13, 0);
        ColdFrame x = oneFrame(1, 2, 3);
        check.refused("24 form 5", x, ARGUMENT, () -> x.bytesAs(0, 0, 5));
        check.refused("24 form -1", x, ARGUMENT, () -> x.bytesAs(0, 0, -1));
        check.refused("24 no frame", x, BOUNDS, () -> x.bytesAs(1, 0, 0));
        check.refused("24 frame -1", x, BOUNDS, () -> x.bytesAs(-1, 0, 0));
        check.refused("24 no column", x, BOUNDS, () -> x.bytesAs(0, 1, 0));
        check.refused("24 column -1", x, BOUNDS, () -> x.bytesAs(0, -1, 0));
        check.refused("24 bounds first", x, BOUNDS, () -> x.bytesAs(1, 0, 5));
        check.refused("24 bounds first, too", x, BOUNDS, () -> x.bytesAs(0, 1, -1));
    }

    private void p23formOf() {
        ColdFrame x = oneFrame(7, 7, 7, 8);
        check.due("23 chosen", x.formOf(0, 0), 1);
        x.delete(3);
        check.due("23 not as rows are deleted", x.formOf(0, 0), 1);
        x.cluster(0, 0);
        check.due("23 as it is clustered", x.formOf(0, 0), 2);
        check.refused("23 no frame", x, BOUNDS, () -> x.formOf(1, 0));
        check.refused("23 frame -1", x, BOUNDS, () -> x.formOf(-1, 0));
        check.refused("23 no column", x, BOUNDS, () -> x.formOf(0, 1));
        check.refused("23 column -1", x, BOUNDS, () -> x.formOf(0, -1));
    }

    private void p25bytes() {
        ColdFrame x = store(3, 4);
        for (int i = 0; i < 4; i++) {
            row(x, 7, 3 * i, null);
        }
        // RUNS: 6; PACKED: 9 + 2 bytes for 0 to 9; DICTIONARY: 2.
        check.due("25 sum", x.bytes(0), 19);
        x.index(0);
        check.due("25 without bitmaps", x.bytes(0), 19);
        x.delete(0);
        check.due("25 not as rows are deleted", x.bytes(0), 19);
        check.refused("25 no frame", x, BOUNDS, () -> x.bytes(1));
        check.refused("25 frame -1", x, BOUNDS, () -> x.bytes(-1));
    }

    private void p26bitmapBytes() {
        ColdFrame x = store(2, 64);
        for (int i = 0; i < 17; i++) {
            row(x, i, i < 16 ? i : null);
        }
        x.seal();
        for (int i = 0; i < 8; i++) {
            row(x, i % 2, null);
        }
        x.seal();
        check.due("26 not indexed", x.bitmapBytes(), 0);
        x.index(0);
        check.due("26 not for 17 values", x.bitmapBytes(), 2);
        x.index(1);
        check.due("26 for 16, not for none", x.bitmapBytes(), 2 + 16 * 3);
        x.index(0);
        check.due("26 of column 1", x.bitmapBytes(), 48);
        row(x, 5, 5);
        check.due("26 none for the buffer", x.bitmapBytes(), 48);
        x.delete(0);
        check.due("26 not as rows are deleted", x.bitmapBytes(), 48);
        x.cluster(0, 0);
        check.due("26 15 values of 16 rows", x.bitmapBytes(), 15 * 2);
    }

    private void p27to31zones() {
        ColdFrame x = oneFrame(null, null, -5, -5, 7, null, -5, 7);
        check.due("27 nulls", x.nulls(0, 0), 3);
        check.due("28 distinct", x.distinct(0, 0), 2);
        check.due("29 runs", x.runs(0, 0), 6);
        check.due("30 least", x.least(0, 0), -5);
        check.due("31 greatest", x.greatest(0, 0), 7);
        x.delete(0);
        x.delete(4);
        x.delete(7);
        check.due("27 as rows are deleted", x.nulls(0, 0), 3);
        check.due("28 as rows are deleted", x.distinct(0, 0), 2);
        check.due("29 as rows are deleted", x.runs(0, 0), 6);
        check.due("31 as rows are deleted", x.greatest(0, 0), 7);
        x.cluster(0, 0);
        check.due("27 clustered", x.nulls(0, 0), 2);
        check.due("28 clustered", x.distinct(0, 0), 1);
        check.due("29 clustered", x.runs(0, 0), 2);
        check.due("31 clustered", x.greatest(0, 0), -5);
        ColdFrame y = oneFrame(null, null);
        check.due("27 all NULL", y.nulls(0, 0), 2);
        check.due("28 all NULL", y.distinct(0, 0), 0);
        check.due("29 all NULL", y.runs(0, 0), 1);
        check.due("30 all NULL", y.least(0, 0), 0);
        check.due("31 all NULL", y.greatest(0, 0), 0);
        ColdFrame z = oneFrame(null, 5, MAX, MIN, 0, null, 0);
        check.due("28 0 and NULL", z.distinct(0, 0), 4);
        check.due("29 0 and NULL", z.runs(0, 0), 7);
        check.due("30 least int", z.least(0, 0), MIN);
        check.due("31 greatest int", z.greatest(0, 0), MAX);
        check.due("31 below 0", oneFrame(-3, null, -9).greatest(0, 0), -3);
        check.due("30 above 0", oneFrame(3, null, 9).least(0, 0), 3);
    }

    private void p27to31wrong() {
        ColdFrame x = oneFrame(1, 2);
        int[][] wrongs = {{1, 0}, {-1, 0}, {0, 1}, {0, -1}, {MAX, MIN}};
        for (int[] w : wrongs) {
            check.refused("27 wrong", x, BOUNDS, () -> x.nulls(w[0], w[1]));
            check.refused("28 wrong", x, BOUNDS, () -> x.distinct(w[0], w[1]));
            check.refused("29 wrong", x, BOUNDS, () -> x.runs(w[0], w[1]));
            check.refused("30 wrong", x, BOUNDS, () -> x.least(w[0], w[1]));
            check.refused("31 wrong", x, BOUNDS, () -> x.greatest(w[0], w[1]));
        }
    }

    // ---- 32 to 35

    private void conditions() {
        p32where();
        p33orElse();
        p34clear();
        p35tests();
        p35groups();
        p35order();
    }

    private void p32where() {
        ColdFrame x = store(2, 4);
        for (int i = 1; i <= 4; i++) {
            check.due("32 where", x.where(i % 2, 2 * i - 1, i), i);
        }
        check.refused("32 a fifth", x, STATE, () -> x.where(0, 0, 0));
        check.refused("32 no column", x, BOUNDS, () -> x.where(2, 8, 0));
        check.refused("32 column -1", x, BOUNDS, () -> x.where(-1, 0, 0));
        check.refused("32 test 8", x, ARGUMENT, () -> x.where(0, 8, 0));
        check.refused("32 test -1", x, ARGUMENT, () -> x.where(1, -1, 0));
        x.orElse();
        check.due("32 the latest group", x.where(0, 0, 0), 1);
        check.refused("32 test 8 there", x, ARGUMENT, () -> x.where(0, 8, 0));
        check.due("32 in all", x.clear(), 5);
    }

    private void p33orElse() {
        ColdFrame x = store(1, 4);
        check.refused("33 empty", x, STATE, x::orElse);
        for (int g = 1; g < 4; g++) {
            x.where(0, 7, 0);
            check.due("33 group", x.orElse(), g);
            check.refused("33 empty again", x, STATE, x::orElse);
        }
        x.where(0, 7, 0);
        check.refused("33 a fifth", x, STATE, x::orElse);
        check.due("33 conditions stay", x.clear(), 4);
    }

    private void p34clear() {
        ColdFrame x = oneColumn(4, 1, 2, 3, 4, 5);
        x.where(0, 0, 1);
        x.where(0, 0, 2);
        x.orElse();
        x.where(0, 0, 3);
        check.due("34 all", x.clear(), 3);
        check.due("34 none", x.clear(), 0);
        check.due("34 one group, empty", x.find(), 5);
        check.refused("34 empty", x, STATE, x::orElse);
        check.due("34 its first condition", x.where(0, 0, 4), 1);
        check.due("34 the second group", x.orElse(), 1);
        check.due("34 which is empty", x.where(0, 0, 5), 1);
        check.due("34 only the new ones", x.find(), 2);
    }

    /** Each test on each value, in a frame and in the BUFFER. */
    private void p35tests() {
        Integer[] values = {null, MIN, -1, 0, 4, 5, 6, MAX};
        String[] due = {"5", "1 2 3 4 6 7", "1 2 3 4", "1 2 3 4 5", "6 7", "5 6 7", "0", "1 2 3 4 5 6 7"};
        for (int test = 0; test < 8; test++) {
            ColdFrame frame = oneFrame(values);
            frame.where(0, test, 5);
            frame.find();
            check.due("35 in a frame, test " + test, result(frame), due[test]);
            ColdFrame buffer = oneColumn(9, values);
            buffer.where(0, test, 5);
            buffer.find();
            check.due("35 in the buffer, test " + test, result(buffer), due[test]);
        }
    }

    private void p35groups() {
        ColdFrame x = oneColumn(4, 1, 2, 3, 4, 5, 6);
        check.due("35 without conditions", x.find(), 6);
        x.where(0, 4, 1);
        x.where(0, 2, 4);
        check.due("35 all of a group", x.find(), 2);
        check.due("35 both", result(x), "1 2");
        x.orElse();
        check.due("35 an empty group adds none", x.find(), 2);
        x.where(0, 5, 3);
        check.due("35 one of the groups", x.find(), 5);
        check.due("35 once each", result(x), "1 2 3 4 5");
        x.delete(2);
        x.delete(5);
        check.due("35 those alive", x.find(), 3);
        x.clear();
        check.due("35 alive, without conditions", x.find(), 4);
    }

    private void p35order() {
        ColdFrame x = oneColumn(4, 4, 3, 2, 1, 5, 6, 8, 7, 0);
        x.cluster(0, 0);
        check.due("35 all", x.find(), 9);
        check.due("35 as they lie", result(x), "3 2 1 0 4 5 6 7 8");
        x.sort(0, false);
        x.delete(3);
        check.due("35 the result stays", result(x), "8 3 2 1 0 4 5 7 6");
        check.due("35 till the next", x.find(), 8);
        check.due("35 in order again", result(x), "2 1 0 4 5 6 7 8");
    }

    // ---- 36 to 39

    private void plans() {
        p36cost();
        p36costOfBuffer();
        p36runs();
        p36leftOut();
        p37passed();
        p38and39ends();
        p38and39nulls();
        p38extremes();
        p38tie();
        p39methods();
        p38and39wrong();
    }

    /** One frame: column 0 goes up and down, in a DICTIONARY; column 1 rises by 1, PACKED. */
    private static ColdFrame codesAndValues() {
        ColdFrame x = store(2, 8);
        for (int i = 0; i < 8; i++) {
            row(x, i % 2 == 0 ? 1 : MILLION, i);
        }
        return x;
    }

    private void p36cost() {
        ColdFrame x = codesAndValues();
        check.due("36 ahead of the first", x.cost(), 0);
        x.find();
        check.due("36 without conditions", x.cost(), 0);
        x.where(0, 0, 1);
        check.due("36 by the latest find", x.cost(), 0);
        x.find();
        check.due("36 codes: distinct and selected", x.cost(), 10);
        x.where(1, 2, 2);
        check.due("36 found", x.find(), 1);
        check.due("36 the least guess first", x.cost(), 8 + (2 + 2));
        x.index(0);
        x.find();
        check.due("36 bitmaps", x.cost(), 8 + 1);
        check.due("50 without", x.costWithout(), 12);
        x.delete(0);
        check.due("36 none alive", x.find(), 0);
        check.due("36 selected, alive or not", x.cost(), 9);
        x.orElse();
        x.where(0, 1, 5);
        x.find();
        check.due("36 two bitmaps, of the second group, too", x.cost(), 9 + 2);
        x.clear();
        x.where(0, 6, 0);
        x.where(1, 7, 0);
        x.find();
        check.due("36 nothing by the zone", x.cost(), 0);
    }

    private void p36costOfBuffer() {
        ColdFrame x = codesAndValues();
        row(x, 1, 0);
        row(x, 1, 9);
        row(x, null, null);
        x.delete(9);
        x.where(0, 0, 1);
        x.where(1, 2, 2);
        check.due("35 frame and buffer", x.find(), 2);
        check.due("36 the buffer as stated", x.cost(), 12 + 3 + 2);
        x.clear();
        x.where(0, 0, 77);
        x.where(1, 0, 0);
        x.find();
        // By the zone the second one goes first in the frame: 8 / 8 is less than 8 / 2.
        check.due("36 the buffer, none left", x.cost(), 8 + (2 + 1) + 3);
        x.orElse();
        x.find();
        check.due("36 an empty group costs nothing", x.cost(), 14);
    }

    private void p36runs() {
        ColdFrame x = store(2, 24);
        for (int i = 0; i < 24; i++) {
            Integer second = i < 3 ? null : (Integer) (i == 23 ? MILLION : 1);
            row(x, i < 12 ? 1 : MILLION, second);
        }
        check.due("36 form", x.formOf(0, 0) * 10 + x.formOf(0, 1), 23);
        x.where(0, 0, MILLION);
        x.find();
        check.due("36 runs", x.cost(), 2);
        x.where(1, 6, 0);
        // 3 NULL are fewer than 24 / 2; of the codes 2 values and 24 rows, then the runs.
        check.due("35 none", x.find(), 0);
        check.due("36 codes of NULL", x.cost(), 26 + 2);
        x.index(1);
        x.find();
        check.due("36 no bitmap for NULL", x.cost(), 28);
        x.clear();
        x.where(1, 5, 2);
        x.find();
        check.due("36 a bitmap for one value", x.cost(), 1);
        x.clear();
        x.where(1, 1, 1);
        x.find();
        check.due("36 a bitmap for the other", x.cost(), 1);
        x.clear();
        x.where(1, 3, MAX);
        x.find();
        check.due("36 bitmaps for all but NULL", x.cost(), 2);
    }

    private void p36leftOut() {
        ColdFrame x = codesAndValues();
        x.where(1, 4, 7);
        x.where(0, 0, 1);
        x.find();
        check.due("36 none by the zone, the others left out", x.cost(), 0);
        x.clear();
        x.where(0, 0, 1);
        x.where(0, 0, MILLION);
        x.where(0, 0, 5);
        x.find();
        check.due("36 the same guesses, as stated", x.cost(), 10 + (2 + 4));
        x.clear();
        x.where(1, 3, 0);
        x.where(1, 4, 100);
        x.find();
        // 8 * (0 - 0) / 8 is 0, too, but it was stated first.
        check.due("36 a guess of 0 ahead of NONE", x.cost(), 8);
    }

    private void p37passed() {
        ColdFrame x = oneColumn(4, 1, 2, 3, 4, 11, 12, 13, 14, 21, 22, 23, 24, 1);
        check.due("37 ahead of the first", x.passed(), 0);
        x.find();
        check.due("37 without conditions", x.passed(), 0);
        x.where(0, 2, 10);
        check.due("37 by the latest find", x.passed(), 0);
        x.find();
        check.due("37 two", x.passed(), 2);
        x.orElse();
        x.find();
        check.due("37 groups that have conditions", x.passed(), 2);
        x.where(0, 0, 23);
        x.find();
        check.due("37 all the groups", x.passed(), 1);
        x.clear();
        x.where(0, 0, 2);
        x.delete(1);
        check.due("35 none", x.find(), 0);
        check.due("37 selected, alive or not", x.passed(), 2);
        x.clear();
        x.where(0, 4, 2);
        x.where(0, 2, 3);
        x.find();
        check.due("37 also not by the zones", x.passed(), 3);
        x.clear();
        x.find();
        check.due("37 none again", x.passed(), 0);
    }

    /** At both ends of the zone, and one behind each. */
    private void p38and39ends() {
        int[][] lines = {
            {0, 2, 0, 0}, {0, 3, 1, 5}, {0, 4, 1, 5}, {0, 8, 1, 5}, {0, 9, 0, 0},
            {1, 2, 4, 1}, {1, 3, 3, 5}, {1, 8, 3, 5}, {1, 9, 4, 1},
            {2, 3, 0, 0}, {2, 4, 0, 5}, {2, 8, 3, 5}, {2, 9, 4, 1}, {2, MIN, 0, 0}, {2, MAX, 4, 1},
            {3, 2, 0, 0}, {3, 3, 0, 5}, {3, 7, 2, 5}, {3, 8, 4, 1}, {3, MIN, 0, 0}, {3, MAX, 4, 1},
            {4, 8, 0, 0}, {4, 7, 0, 5}, {4, 3, 3, 5}, {4, 2, 4, 1}, {4, MIN, 4, 1}, {4, MAX, 0, 0},
            {5, 9, 0, 0}, {5, 8, 0, 5}, {5, 4, 2, 5}, {5, 3, 4, 1}, {5, MIN, 4, 1}, {5, MAX, 0, 0},
            {6, 0, 0, 0}, {7, 0, 4, 1},
        };
        plansDue(oneFrame(3, 5, 8, 8), lines);
        int[][] lonely = {
            {0, 6, 0, 0}, {0, 7, 2, 1}, {0, 8, 0, 0}, {1, 6, 2, 1}, {1, 7, 0, 0}, {1, 8, 2, 1},
        };
        plansDue(oneFrame(7, 7), lonely);
    }

    /** With NULL nothing but test 6 and NONE is told by the zone alone. */
    private void p38and39nulls() {
        int[][] lines = {
            {0, 2, 0, 0}, {0, 5, 1, 5}, {1, 2, 2, 5}, {1, 3, 2, 5}, {2, 9, 3, 5}, {2, 100, 3, 5},
            {2, 8, 2, 5}, {3, 8, 2, 5}, {4, 2, 3, 5}, {4, MIN, 3, 5}, {5, 3, 2, 5}, {5, -100, 3, 5},
            {5, 9, 0, 0}, {6, 0, 1, 5}, {7, 0, 3, 5},
        };
        plansDue(oneFrame(3, null, 8, 8), lines);
        int[][] onlyNull = {
            {0, 0, 0, 0}, {1, 0, 0, 0}, {1, 5, 0, 0}, {2, 5, 0, 0}, {3, 0, 0, 0}, {4, -5, 0, 0},
            {5, 0, 0, 0}, {6, 0, 3, 1}, {7, 0, 0, 0},
        };
        plansDue(oneFrame(null, null, null), onlyNull);
        ColdFrame x = oneFrame(7, 7, null);
        x.index(0);
        check.due("39 form", x.formOf(0, 0), 3);
        int[][] oneValue = {{0, 7, 2, 2}, {1, 7, 0, 0}, {1, 8, 0, 2}, {6, 0, 1, 4}, {7, 0, 2, 4}};
        plansDue(x, oneValue);
    }

    /** Each line: the test, v, the guess and the method due. */
    private void plansDue(ColdFrame x, int[]... lines) {
        for (int[] line : lines) {
            x.clear();
            x.where(0, line[0], line[1]);
            check.due("38 test " + line[0] + " of " + line[1], x.guess(0, 0, 0), line[2]);
            check.due("39 test " + line[0] + " of " + line[1], x.method(0, 0, 0), line[3]);
        }
    }

    private void p38extremes() {
        int[][] lines = {
            {2, 0, 2, 4}, {2, MAX, 3, 4}, {3, MAX, 4, 1}, {3, MAX - 1, 3, 4}, {4, 0, 1, 4},
            {4, -2, 2, 4}, {5, MIN, 4, 1}, {5, MIN + 1, 3, 4}, {5, MAX, 0, 4}, {4, MAX, 0, 0},
            {2, MIN, 0, 0},
        };
        plansDue(oneFrame(MIN, MAX, 0, 0), lines);
    }

    private void p38tie() {
        ColdFrame x = store(2, 4);
        row(x, 1, 1);
        row(x, 2, 2);
        row(x, 3, 3);
        row(x, 4, 4);
        x.delete(0);
        x.where(0, 3, 2);
        x.where(1, 0, 2);
        x.orElse();
        x.where(1, 6, 0);
        check.due("38 as stated, place 0", x.guess(0, 0, 0), 1);
        check.due("38 as stated, place 1", x.guess(0, 1, 0), 1);
        check.due("38 the second group", x.guess(1, 0, 0), 0);
        x.cluster(0, 0);
        check.due("38 as it is now", x.guess(0, 0, 0), 0);
    }

    private void p39methods() {
        ColdFrame x = codesAndValues();
        x.where(0, 0, 1);
        x.where(1, 0, 100);
        x.where(1, 0, 3);
        check.due("39 codes, looked at or not", x.method(0, 0, 0), 4);
        check.due("39 none", x.method(0, 1, 0), 0);
        check.due("39 values", x.method(0, 2, 0), 5);
        x.index(0);
        check.due("39 bitmaps, as it is now", x.method(0, 0, 0), 2);
        check.due("39 of this column alone", x.method(0, 2, 0), 5);
        x.index(0);
        check.due("39 codes again", x.method(0, 0, 0), 4);
        ColdFrame y = store(1, 64);
        for (int i = 0; i < 17; i++) {
            row(y, i * 1000);
        }
        y.seal();
        y.index(0);
        y.where(0, 0, 1000);
        check.due("39 17 values have none", y.method(0, 0, 0), 5);
        y.delete(16);
        check.due("39 not as rows are deleted", y.method(0, 0, 0), 5);
        y.cluster(0, 0);
        check.due("39 16 have", y.method(0, 0, 0), 2);
        ColdFrame z = oneFrame(null, null, null, null, null, null, null, null, null, 3, 3, 3, 3, 3, 3,
                3, 3, 3, 3, 3, 3, 3, 3, 3, 3, 3, 3, 3, 3, 3, 3, 3, 3, 3, 3, 3, 3, 3, 3, 3, 3, 3, 3, 3, 3,
                3, 3, 3, 3, 3, 3, 3, 3, 3, 3, 3, 3, 3, 3, 3, 3);
        z.where(0, 6, 0);
        z.where(0, 0, 3);
        check.due("39 runs of NULL", z.method(0, 0, 0), 3);
        z.index(0);
        check.due("39 runs with bitmaps", z.method(0, 0, 0), 3);
        check.due("39 bitmaps ahead of runs", z.method(0, 1, 0), 2);
    }

    private void p38and39wrong() {
        ColdFrame x = oneFrame(1, 2, 3);
        x.where(0, 0, 1);
        x.where(0, 0, 2);
        x.orElse();
        int[][] wrongs = {
            {2, 0, 0}, {-1, 0, 0}, {0, 2, 0}, {0, -1, 0}, {0, 0, 1}, {0, 0, -1}, {1, 0, 0}, {MAX, MIN, MAX},
        };
        for (int[] w : wrongs) {
            check.refused("38 wrong", x, BOUNDS, () -> x.guess(w[0], w[1], w[2]));
            check.refused("39 wrong", x, BOUNDS, () -> x.method(w[0], w[1], w[2]));
        }
        x.clear();
        check.refused("38 cleared", x, BOUNDS, () -> x.guess(0, 0, 0));
    }

    // ---- 40 to 49

    private void results() {
        p40and41found();
        p42sort();
        p43limit();
        p44sum();
        p45mean();
        p46groups();
        p47ofGroup();
        p47wrong();
        p48keep();
        p49pairs();
    }

    private void p40and41found() {
        ColdFrame x = oneColumn(4, 1, 2, 3, 4, 5);
        check.due("40 ahead of the first find", x.found(), 0);
        check.refused("41 ahead of it", x, BOUNDS, () -> x.foundAt(0));
        x.where(0, 4, 2);
        x.find();
        check.due("40 found", x.found(), 3);
        check.due("41 first", x.foundAt(0), 2);
        check.due("41 last", x.foundAt(2), 4);
        check.refused("41 no place", x, BOUNDS, () -> x.foundAt(3));
        check.refused("41 place -1", x, BOUNDS, () -> x.foundAt(-1));
        x.delete(2);
        x.clear();
        x.cluster(0, 0);
        check.due("40 stays", x.found(), 3);
        check.due("41 stays", x.foundAt(0), 2);
    }

    private void p42sort() {
        ColdFrame x = found(5, null, 3, 5, null, MIN, MAX);
        check.due("42 rising", x.sort(0, false), 5);
        check.due("42 NULL last, the same as they were", result(x), "5 2 0 3 6 1 4");
        check.due("42 falling", x.sort(0, true), 6);
        check.due("42 NULL last, too", result(x), "6 0 3 2 5 1 4");
        check.refused("42 no column", x, BOUNDS, () -> x.sort(1, true));
        check.refused("42 column -1", x, BOUNDS, () -> x.sort(-1, false));
        ColdFrame y = store(2, 9);
        row(y, 1, 1);
        row(y, 2, 1);
        row(y, 3, 0);
        row(y, 4, 1);
        y.find();
        y.sort(0, true);
        y.sort(1, false);
        check.due("42 as the sort ahead left them", result(y), "2 3 1 0");
        y.limit(0);
        check.due("42 empty", y.sort(0, false), -1);
        ColdFrame none = store(1, 4);
        check.due("42 ahead of the first find", none.sort(0, false), -1);
    }

    private void p43limit() {
        ColdFrame x = found(5, 6, 7, 8);
        check.due("43 more", x.limit(9), 4);
        check.due("43 as many", x.limit(4), 4);
        check.due("43 fewer", x.limit(3), 3);
        check.due("43 the first ones", result(x), "0 1 2");
        check.refused("43 -1", x, ARGUMENT, () -> x.limit(-1));
        check.refused("43 MIN", x, ARGUMENT, () -> x.limit(MIN));
        check.due("43 MAX", x.limit(MAX), 3);
        check.due("43 they do not come back", result(x), "0 1 2");
        check.due("43 none", x.limit(0), 0);
        check.due("43 till the next find", x.find(), 4);
    }

    private void p44sum() {
        ColdFrame x = found(MAX, 1, null, 5);
        check.due("44 wraps around", x.sum(0), MIN + 5);
        x.limit(1);
        check.due("44 of the result", x.sum(0), MAX);
        x.limit(0);
        check.due("44 of none", x.sum(0), 0);
        check.due("44 below 0", found(-5, null, 3).sum(0), -2);
        check.refused("44 no column", x, BOUNDS, () -> x.sum(1));
        check.refused("44 column -1", x, BOUNDS, () -> x.sum(-1));
    }

    private void p45mean() {
        check.due("45 not cut", found(1, 2).mean(0), 1.5);
        check.due("45 NULL not counted", found(1, null, 2, null).mean(0), 1.5);
        check.due("45 not wrapped around", found(MAX, MAX, MAX - 1, MAX - 1).mean(0), MAX - 0.5);
        check.due("45 below 0", found(-7, 2).mean(0), -2.5);
        check.due("45 a third", found(0, 0, 1).mean(0), 1.0 / 3.0);
        check.due("45 least", found(MIN, MIN, MIN).mean(0), (double) MIN);
        check.due("45 only NULL", found(null, null).mean(0), 0.0);
        ColdFrame x = found(4, 5);
        check.refused("45 no column", x, BOUNDS, () -> x.mean(1));
        check.refused("45 column -1", x, BOUNDS, () -> x.mean(-1));
        x.delete(1);
        check.due("45 rows that are deleted count", x.mean(0), 4.5);
        x.limit(0);
        check.due("45 of none", x.mean(0), 0.0);
    }

    private void p46groups() {
        ColdFrame x = found(5, null, 3, 5, null, 0);
        check.due("46 NULL is one more", x.groups(0), 4);
        x.limit(1);
        check.due("46 of the result", x.groups(0), 1);
        x.limit(0);
        check.due("46 of none", x.groups(0), 0);
        check.due("46 without NULL", found(5, 3, 5).groups(0), 2);
        check.due("46 only NULL", found(null, null).groups(0), 1);
        check.refused("46 no column", x, BOUNDS, () -> x.groups(1));
        check.refused("46 column -1", x, BOUNDS, () -> x.groups(-1));
        ColdFrame y = found(9, 8, 7);
        y.groups(0);
        check.due("46 the result stays in order", result(y), "0 1 2");
    }

    /** Groups of column 0: -4 (three rows), 9 (one row), NULL (two rows). */
    private static ColdFrame grouped() {
        ColdFrame x = store(2, 4);
        row(x, 9, null);
        row(x, -4, MAX);
        row(x, null, 7);
        row(x, -4, null);
        row(x, -4, 2);
        row(x, null, -3);
        x.find();
        return x;
    }

    private void p47ofGroup() {
        ColdFrame x = grouped();
        int[][] due = {{-4, 3, MIN + 1, 2, MAX}, {9, 1, 0, 0, 0}, {0, 2, 4, -3, 7}};
        for (int group = 0; group < 3; group++) {
            for (int account = 0; account < 5; account++) {
                check.due("47 group " + group + " account " + account,
                        x.ofGroup(0, group, 1, account), due[group][account]);
            }
        }
        check.due("47 of itself, sum", x.ofGroup(0, 0, 0, 2), -12);
        check.due("47 of itself, least", x.ofGroup(0, 1, 0, 3), 9);
        check.due("47 of itself, NULL", x.ofGroup(0, 2, 0, 4), 0);
        check.due("47 greatest below 0", x.ofGroup(0, 0, 0, 4), -4);
        x.limit(2);
        check.due("47 of the result", x.ofGroup(0, 0, 1, 1), 1);
        check.due("41 the result stays in order", result(x), "0 1");
    }

    private void p47wrong() {
        ColdFrame x = grouped();
        check.refused("47 no group", x, BOUNDS, () -> x.ofGroup(0, 3, 1, 0));
        check.refused("47 group -1", x, BOUNDS, () -> x.ofGroup(0, -1, 1, 0));
        check.refused("47 no column", x, BOUNDS, () -> x.ofGroup(2, 0, 1, 0));
        check.refused("47 column -1", x, BOUNDS, () -> x.ofGroup(-1, 0, 1, 0));
        check.refused("47 no other column", x, BOUNDS, () -> x.ofGroup(0, 0, 2, 0));
        check.refused("47 other column -1", x, BOUNDS, () -> x.ofGroup(0, 0, -1, 1));
        check.refused("47 account 5", x, ARGUMENT, () -> x.ofGroup(0, 0, 1, 5));
        check.refused("47 account -1", x, ARGUMENT, () -> x.ofGroup(0, 0, 1, -1));
        check.refused("47 bounds first", x, BOUNDS, () -> x.ofGroup(0, 3, 1, 5));
        check.refused("47 bounds first, too", x, BOUNDS, () -> x.ofGroup(0, 0, 2, 5));
        x.limit(0);
        check.refused("47 no groups", x, BOUNDS, () -> x.ofGroup(0, 0, 1, 0));
    }

    private void p48keep() {
        ColdFrame x = oneColumn(8, 1, 1, 2);
        check.due("48 ahead of the first find", x.keep(), 0);
        x.find();
        check.due("49 nothing kept", x.pairs(0, 0), 0);
        check.due("48 all", x.keep(), 3);
        x.limit(1);
        check.due("49 what was kept stays", x.pairs(0, 0), 2);
        check.due("48 in its place", x.keep(), 1);
        x.find();
        check.due("49 the one kept", x.pairs(0, 0), 2);
        x.delete(0);
        check.due("49 also if deleted", x.pairs(0, 0), 2);
    }

    private void p49pairs() {
        ColdFrame x = store(2, 8);
        row(x, 1, 1);
        row(x, 1, 2);
        row(x, 2, 2);
        row(x, null, null);
        row(x, 0, null);
        x.find();
        x.keep();
        check.due("49 of two columns", x.pairs(0, 1), 2 + 2);
        check.due("49 the other way round", x.pairs(1, 0), 2 + 2);
        check.due("49 of one column, NULL is no value", x.pairs(0, 0), 4 + 1 + 1);
        x.sort(0, true);
        x.limit(1);
        check.due("49 of the result", x.pairs(0, 1), 2);
        check.due("49 the first is the result's", x.pairs(1, 0), 1);
        check.refused("49 no column", x, BOUNDS, () -> x.pairs(2, 0));
        check.refused("49 column -1", x, BOUNDS, () -> x.pairs(-1, 0));
        check.refused("49 no other", x, BOUNDS, () -> x.pairs(0, 2));
        check.refused("49 other -1", x, BOUNDS, () -> x.pairs(0, -1));
    }

    // ---- 50 to 53

    private void whatWouldBe() {
        p50costWithout();
        p51wouldFind();
        p52bestCluster();
        p53digest();
        p53nothingFound();
    }

    private void p50costWithout() {
        ColdFrame x = codesAndValues();
        check.due("50 without conditions", x.costWithout(), 0);
        x.index(0);
        x.where(0, 0, 1);
        check.due("50 codes", x.costWithout(), 10);
        check.due("50 no find", x.cost() + x.found() + x.passed(), 0);
        x.find();
        check.due("36 bitmaps", x.cost(), 1);
        x.where(1, 2, 2);
        check.due("50 as it would be now", x.costWithout(), 12);
        check.due("36 stays", x.cost(), 1);
        check.due("40 stays", x.found(), 4);
        check.due("50 still indexed", x.bitmapBytes(), 2);
    }

    private void p51wouldFind() {
        ColdFrame x = oneColumn(4, 1, 2, 3, 4, 5);
        check.due("51 all", x.wouldFind(), 5);
        check.due("51 no find", x.found(), 0);
        x.find();
        x.sort(0, true);
        x.where(0, 4, 2);
        check.due("51 conditions as they are", x.wouldFind(), 3);
        x.delete(4);
        check.due("51 rows as they are", x.wouldFind(), 2);
        check.due("51 the result stays", result(x), "4 3 2 1 0");
        check.due("51 the cost stays", x.cost(), 0);
        check.due("35 as it told", x.find(), 2);
        check.due("51 does not depend on limit", x.limit(1) + x.wouldFind(), 3);
    }

    private void p52bestCluster() {
        ColdFrame x = wavesAndSteps();
        check.due("52 by 0 -34, by 1 0", x.bestCluster(0), 1);
        x.cluster(0, 0);
        check.due("52 by 0 0, by 1 34", x.bestCluster(0), 1);
        check.due("52 nothing changed", x.bytes(0), 69);
        check.due("52 nor the order", x.rowAt(0, 1), 2);
        check.refused("52 no frame", x, BOUNDS, () -> x.bestCluster(1));
        check.refused("52 frame -1", x, BOUNDS, () -> x.bestCluster(-1));
        // By 0, 14 and 13 bytes; by 1, 14 and 12, but were it by falling values, 14 and 13.
        ColdFrame rising = store(2, 5);
        int[][] values = {{10, 5}, {100, 0}, {250, 60}, {50, 40}, {50, 8}};
        for (int[] v : values) {
            row(rising, v[0], v[1]);
        }
        check.due("52 by rising values", rising.bestCluster(0), 1);
        check.due("52 what cluster tells", rising.cluster(0, 1), 27 - 26);
        check.due("52 and by 0", rising.cluster(0, 0), 26 - 27);
        p52nullFirst();
        ColdFrame y = store(3, 4);
        for (int i = 0; i < 4; i++) {
            row(y, 1, 5 - i, 5 - i);
        }
        check.due("52 the same, the smallest", y.bestCluster(0), 0);
        for (int r = 0; r < 4; r++) {
            y.delete(r);
        }
        check.due("52 none alive", y.bestCluster(0), 0);
        check.due("52 the frame stays", y.rowsIn(0), 4);
        check.due("52 dead rows do not count", deadWaves().bestCluster(0), 0);
    }

    /** By 0, 7 and 14 bytes; by 1, 7 and 13, but were NULL last, by 0 as few. */
    private void p52nullFirst() {
        ColdFrame x = store(2, 6);
        row(x, 2, 6);
        row(x, null, 0);
        row(x, 2, 8);
        row(x, 2, 2);
        row(x, null, 20);
        row(x, null, 50);
        check.due("52 NULL first", x.bestCluster(0), 1);
    }

    /** By its rows that are alive alone, as cluster() does it. */
    private static ColdFrame deadWaves() {
        ColdFrame x = store(2, 64);
        for (int i = 0; i < 64; i++) {
            row(x, i < 32 ? i % 2 * MILLION : 5, i < 32 ? 5 : i % 2 * MILLION);
        }
        for (int r = 32; r < 64; r++) {
            x.delete(r);
        }
        return x;
    }

    private void p53digest() {
        ColdFrame x = store(2, 4);
        row(x, 5, null);
        row(x, 3, 1);
        row(x, 9, 1);
        row(x, 4, 1);
        row(x, 8, -2);
        x.index(1);
        x.delete(2);
        x.where(0, 4, 3);
        x.find();
        x.sort(0, true);
        long[] numbers = {
            2, 5, 4, 1, 1, 1, 4 + 1, 0, 3, 4, 0, 3,
            1, 0, 0, 5, 1, 0, 1, 0, 0, 3, 0, 1, 0, 0, 0, 9, 0, 1, 1, 0, 0, 4, 0, 1, 1, -1, 0, 8, 0, -2,
            4, 0, 1, 2, 3, 11 + 7, 1, 0, 4, 4, 3, 9, 3, 1, 1, 2, 1, 1,
        };
        long d = 58023;
        for (long number : numbers) {
            d = d * 31 + number;
        }
        check.due("53 digest", x.digest(), d);
        check.due("53 changes nothing", x.digest(), d);
    }

    private void p53nothingFound() {
        long d = 58023;
        for (int i = 0; i < 9; i++) {
            d *= 31;
        }
        check.due("53 a new object", new ColdFrame().digest(), d);
        ColdFrame x = oneColumn(4, 1, 2, 3, 4);
        long before = x.digest();
        x.wouldFind();
        x.costWithout();
        x.bestCluster(0);
        x.give(0, 9);
        x.keep();
        check.due("53 what would be changes nothing", x.digest(), before);
        x.find();
        check.due("53 a search does", x.digest() == before, false);
    }
}
