/** What the terms tell of the RESULT, and promises 40 to 49. */
final class ResultEdges extends Edges {
    /** Column 0 as told, column 1 is 0, 1, 2 and so on; all are found. */
    private static ColdFrame foundTwo(Integer... values) {
        ColdFrame x = store(2, 64);
        for (int i = 0; i < values.length; i++) {
            row(x, values[i], i);
        }
        x.find();
        return x;
    }

    private static ColdFrame limited(int most, Integer... values) {
        ColdFrame x = found(values);
        x.limit(most);
        return x;
    }

    /** Rows were found, then left out by a limit. */
    private static ColdFrame emptied() {
        return limited(0, 5, 6);
    }

    // ---- the terms

    @Told(promise = TERMS, words = "as find() is called those FOUND")
    void t1asFindIsCalled() {
        ColdFrame x = counted(4, 6);
        x.find();
        row(x, 9);
        due("not the row added then", result(x), "0 1 2 3 4 5");
        x.where(0, 0, 9);
        due("nor by the condition stated then", result(x), "0 1 2 3 4 5");
        x.find();
        due("at the next find", result(x), "6");
        x.change(6, 0, 8);
        due("nor the one that it is changed to", result(x), "6");
    }

    @Told(promise = TERMS, words = "frame by frame, in the order that they have there, then those of the BUFFER")
    void t2order() {
        ColdFrame x = oneColumn(4, 9, 8, 7, 6, 5, 4, 3, 2, 1, 0);
        x.cluster(1, 0);
        x.find();
        due("the second frame is clustered", result(x), "0 1 2 3 7 6 5 4 8 9");
        x.cluster(0, 0);
        x.find();
        due("both are", result(x), "3 2 1 0 7 6 5 4 8 9");
        x.merge(0);
        x.cluster(0, 0);
        x.find();
        due("as one", result(x), "7 6 5 4 3 2 1 0 8 9");
    }

    @Told(promise = TERMS, words = "It stays as it is till the next find()")
    void t3stays() {
        ColdFrame x = oneColumn(4, 9, 8, 7, 6, 5);
        x.find();
        x.cluster(0, 0);
        x.seal();
        x.merge(0);
        x.clear();
        x.keep();
        x.groups(0);
        x.wouldFind();
        x.costWithout();
        due("all other calls leave it", result(x), "0 1 2 3 4");
        x.find();
        due("the next find", result(x), "3 2 1 0 4");
    }

    @Told(promise = TERMS, words = "but for sorting and limiting")
    void t4sortedAndLimited() {
        ColdFrame x = found(5, 7, 6);
        x.sort(0, true);
        due("sorted", result(x), "1 2 0");
        x.limit(2);
        due("limited", result(x), "1 2");
        x.sort(0, false);
        due("sorted again", result(x), "2 1");
        x.find();
        due("till the next find", result(x), "0 1 2");
    }

    @Told(promise = TERMS, words = "also if rows are deleted")
    void t5deleted() {
        ColdFrame x = found(5, 7, 6);
        killed(x, 0, 1);
        due("two", result(x), "0 1 2");
        x.seal();
        killed(x, 2, 2);
        x.cluster(0, 0);
        due("all, in none any more", result(x), "0 1 2");
        x.sort(0, true);
        due("sorted", result(x), "1 2 0");
        due("the next find", x.find(), 0);
    }

    @Told(promise = TERMS, words = "their values are asked as they are then")
    void t6valuesThen() {
        ColdFrame x = found(5, 7, 6);
        killed(x, 0, 2);
        x.seal();
        due("sum", x.sum(0), 18);
        due("mean", x.mean(0), 6.0);
        due("groups", x.groups(0), 3);
        due("sort", x.sort(0, true), 1);
        x.keep();
        due("pairs", x.pairs(0, 0), 3);
    }

    @Told(promise = TERMS, words = "(A row has its number and its values for ever")
    void t7forEver() {
        ColdFrame x = oneColumn(4, 5, null, 7, 6);
        x.change(0, 0, 50);
        x.cluster(0, 0);
        x.delete(2);
        x.cluster(0, 0);
        due("changed", x.valueOf(0, 0), 5);
        due("NULL", x.isNull(1, 0), true);
        due("deleted, in none any more", x.valueOf(2, 0), 7);
        due("ALIVE", x.valueOf(3, 0), 6);
        due("what it was changed to", x.valueOf(4, 0), 50);
        due("the next number", x.add(), 5);
    }

    @Told(promise = TERMS, words = "only whether it is ALIVE, and where it is, changes.)")
    void t8whatChanges() {
        ColdFrame x = counted(4, 3);
        due("ALIVE, in the BUFFER", x.isAlive(2) ? x.frameOf(2) : 9, -1);
        row(x, 3);
        due("in a frame", x.frameOf(2), 0);
        x.delete(2);
        due("not ALIVE, in a frame", x.isAlive(2) ? 9 : x.frameOf(2), 0);
        x.cluster(0, 0);
        due("in none", x.frameOf(2), -2);
        due("not ALIVE again", x.isAlive(2), false);
    }

    // ---- 40 to 43

    @Told(promise = 40, words = "Returns how many rows the RESULT has")
    void p40howMany() {
        due("three", found(5, 6, 7).found(), 3);
        due("one", found(5).found(), 1);
        due("none", emptied().found(), 0);
        due("limited", limited(2, 5, 6, 7).found(), 2);
    }

    @Told(promise = 40, words = "0 ahead of the first find().")
    void p40aheadOfTheFirst() {
        due("a new object", new ColdFrame().found(), 0);
        ColdFrame x = counted(4, 6);
        x.wouldFind();
        due("with rows", x.found(), 0);
        x.find();
        due("behind it", x.found(), 6);
    }

    @Told(promise = 41, words = "a place, from 0")
    void p41place() {
        due("the first one", found(5, 6, 7).foundAt(0), 0);
        due("the last one", found(5, 6, 7).foundAt(2), 2);
    }

    @Told(promise = 41, words = "Returns the row number there.")
    void p41row() {
        ColdFrame x = found(5, 7, 6);
        x.sort(0, true);
        due("the first one", x.foundAt(0), 1);
        due("the second one", x.foundAt(1), 2);
        due("the last one", x.foundAt(2), 0);
    }

    @Told(promise = 41, words = "Throws `IndexOutOfBoundsException` if the RESULT has no such place")
    void p41noPlace() {
        onlyFrom(0, 2, BOUNDS, Scene::busy, (x, place) -> x.foundAt(place));
        onlyFrom(0, 0, BOUNDS, () -> limited(1, 5, 6), (x, place) -> x.foundAt(place));
        none(BOUNDS, ResultEdges::emptied, (x, place) -> x.foundAt(place));
        none(BOUNDS, () -> counted(4, 6), (x, place) -> x.foundAt(place));
        none(BOUNDS, ColdFrame::new, (x, place) -> x.foundAt(place));
    }

    private void sorted(ColdFrame x, boolean isFalling, String due) {
        x.sort(0, isFalling);
        due(isFalling ? "falling" : "rising", result(x), due);
    }

    @Told(promise = 42, words = "Sorts the RESULT by the values of a column")
    void p42sorts() {
        ColdFrame x = foundTwo(5, 7, 6);
        x.sort(0, true);
        due("by the first column", result(x), "1 2 0");
        x.sort(1, false);
        due("by the second column", result(x), "0 1 2");
        sorted(found(3), true, "0");
        sorted(emptied(), true, "");
        ColdFrame all = found(joined(times(63, 1), 2));
        all.sort(0, true);
        due("64 rows, the last one comes first", all.foundAt(0), 63);
        due("64 rows, the others behind it", all.foundAt(63), 62);
    }

    @Told(promise = 42, words = "the same ones as they were")
    void p42asTheyWere() {
        sorted(found(5, 7, 5, 7, 5), false, "0 2 4 1 3");
        sorted(found(5, 7, 5, 7, 5), true, "1 3 0 2 4");
        ColdFrame x = foundTwo(5, 7, 5, 7, 5);
        x.sort(1, true);
        sorted(x, false, "4 2 0 3 1");
        sorted(x, true, "3 1 4 2 0");
        sorted(found(null, 5, null), true, "1 0 2");
        ColdFrame y = foundTwo(null, 5, null);
        y.sort(1, true);
        sorted(y, false, "1 2 0");
    }

    @Told(promise = 42, words = "NULL last")
    void p42nullLast() {
        sorted(found(null, MAX, MIN, 0), false, "2 3 1 0");
        sorted(found(null, MAX, MIN, 0), true, "1 3 2 0");
        sorted(found(null, null), true, "0 1");
        sorted(found(0, null, -1), false, "2 0 1");
        sorted(found(0, null, 1), true, "2 0 1");
    }

    @Told(promise = 42, words = "whether the greatest value is the first one, otherwise the least one")
    void p42falling() {
        sorted(found(0, MIN, MAX, MIN + 1, MAX - 1, -1), true, "2 4 0 5 3 1");
        sorted(found(0, MIN, MAX, MIN + 1, MAX - 1, -1), false, "1 3 5 0 4 2");
    }

    @Told(promise = 42, words = "Returns the row number that is the first one then")
    void p42first() {
        due("falling", found(5, 7, 6).sort(0, true), 1);
        due("rising", found(5, 7, 6, 4).sort(0, false), 3);
        due("NULL alone", found(null, null).sort(0, true), 0);
        due("one row", limited(1, 5, 6).sort(0, true), 0);
    }

    @Told(promise = 42, words = "-1 if it is empty.")
    void p42empty() {
        due("limited", emptied().sort(0, true), -1);
        due("ahead of the first find", counted(4, 6).sort(0, false), -1);
        due("one row", found(5).sort(0, true), 0);
        ColdFrame x = counted(4, 6);
        x.where(0, 0, 77);
        x.find();
        due("none found", x.sort(0, true), -1);
    }

    @Told(promise = 42, words = "Throws `IndexOutOfBoundsException` if there is no such column")
    void p42noColumn() {
        noColumn((x, column) -> x.sort(column, true));
        noColumn((x, column) -> x.sort(column, false));
    }

    /** Also where the RESULT is empty. */
    private void noColumn(AskedWith call) {
        onlyFrom(0, 1, BOUNDS, Scene::busy, call);
        onlyFrom(0, 7, BOUNDS, () -> store(8, 4), call);
        onlyFrom(0, 0, BOUNDS, ResultEdges::emptied, call);
        none(BOUNDS, ColdFrame::new, call);
    }

    @Told(promise = 43, words = "Only the first rows of the RESULT stay.")
    void p43firstRows() {
        due("two of three", result(limited(2, 5, 6, 7)), "0 1");
        ColdFrame x = found(5, 7, 6);
        x.sort(0, true);
        x.limit(2);
        due("as they are sorted", result(x), "1 2");
        x.limit(3);
        due("the others do not come back", result(x), "1 2");
    }

    @Told(promise = 43, words = "how many at most")
    void p43atMost() {
        String[] due = {"", "0", "0 1", "0 1 2", "0 1 2"};
        for (int most = 0; most < 5; most++) {
            due(most + " of three", result(limited(most, 5, 6, 7)), due[most]);
        }
        due("the greatest int", result(limited(MAX, 5, 6, 7)), "0 1 2");
    }

    @Told(promise = 43, words = "Returns how many it has then.")
    void p43howMany() {
        int[] due = {0, 1, 2, 3, 3};
        for (int most = 0; most < 5; most++) {
            due(most + " of three", found(5, 6, 7).limit(most), due[most]);
        }
        due("none", emptied().limit(5), 0);
        due("ahead of the first find", counted(4, 6).limit(5), 0);
        due("the greatest int", found(5, 6, 7).limit(MAX), 3);
    }

    @Told(promise = 43, words = "Throws `IllegalArgumentException` if most is less than 0")
    void p43less() {
        onlyFrom(0, MAX, new int[] {-1, -2, MIN});
    }

    private void onlyFrom(int least, int greatest, int[] wrong) {
        for (int most : new int[] {least, least + 1, greatest}) {
            answered("with " + most, Scene::busy, x -> x.limit(most));
        }
        for (int most : wrong) {
            refused("with " + most, ARGUMENT, Scene::busy, x -> x.limit(most));
            refused("of none, with " + most, ARGUMENT, ColdFrame::new, x -> x.limit(most));
        }
    }

    // ---- 44 to 46

    @Told(promise = 44, words = "Returns the sum of its values in the RESULT")
    void p44sum() {
        due("three", found(5, -7, 6).sum(0), 4);
        due("one", limited(1, 5, -7, 6).sum(0), 5);
        due("none", emptied().sum(0), 0);
        due("ahead of the first find", counted(4, 6).sum(0), 0);
        due("of the other column", foundTwo(5, 6, 7).sum(1), 3);
        due("one row twice told", found(4, 4).sum(0), 8);
    }

    @Told(promise = 44, words = "NULL as 0")
    void p44null() {
        due("one", found(5, null, 6).sum(0), 11);
        due("all", found(null, null).sum(0), 0);
    }

    @Told(promise = 44, words = "wrapped around to 32 bits")
    void p44wrapped() {
        due("the greatest int", found(MAX - 1, 1).sum(0), MAX);
        due("one more", found(MAX, 1).sum(0), MIN);
        due("the least int", found(MIN + 1, -1).sum(0), MIN);
        due("one less", found(MIN, -1).sum(0), MAX);
        due("twice around", found(MIN, MIN).sum(0), 0);
        due("there and back", found(MAX, 1, -1).sum(0), MAX);
        due("64 times", found(times(64, MAX)).sum(0), -64);
    }

    @Told(promise = 44, words = "Throws `IndexOutOfBoundsException` if there is no such column")
    void p44noColumn() {
        noColumn(ColdFrame::sum);
    }

    @Told(promise = 45, words = "Returns the mean of its values in the RESULT")
    void p45mean() {
        due("three", found(5, -7, 8).mean(0), 2.0);
        due("one", limited(1, 5, -7).mean(0), 5.0);
        due("of the other column", foundTwo(5, 6, 7).mean(1), 1.0);
        due("the same value twice", found(4, 4, 1).mean(0), 3.0);
    }

    @Told(promise = 45, words = "NULL not counted")
    void p45null() {
        due("one", found(5, null, 7).mean(0), 6.0);
        due("all but one", found(null, null, 7).mean(0), 7.0);
        due("0 is counted", found(0, 7).mean(0), 3.5);
    }

    @Told(promise = 45, words = "not cut")
    void p45notCut() {
        due("a half", found(1, 2).mean(0), 1.5);
        due("a half below 0", found(-1, -2).mean(0), -1.5);
        due("a third", found(0, 0, 1).mean(0), 1.0 / 3.0);
        due("a 64th", found(joined(times(63, 0), 1)).mean(0), 1.0 / 64.0);
    }

    @Told(promise = 45, words = "nor wrapped around")
    void p45notWrapped() {
        due("just 32 bits", found(MAX - 1, 1).mean(0), MAX / 2.0);
        due("one more", found(MAX, 1).mean(0), 1073741824.0);
        due("one less", found(MIN, -1).mean(0), -1073741824.5);
        due("64 of the greatest", found(times(64, MAX)).mean(0), (double) MAX);
        due("64 of the least", found(times(64, MIN)).mean(0), (double) MIN);
        due("both", found(MIN, MAX).mean(0), -0.5);
    }

    @Told(promise = 45, words = "0 without any.")
    void p45none() {
        due("an empty RESULT", emptied().mean(0), 0.0);
        due("ahead of the first find", counted(4, 6).mean(0), 0.0);
        due("NULL alone", found(null, null).mean(0), 0.0);
        due("one", found(null, 3).mean(0), 3.0);
    }

    @Told(promise = 45, words = "Throws `IndexOutOfBoundsException` if there is no such column")
    void p45noColumn() {
        noColumn(ColdFrame::mean);
    }

    @Told(promise = 46, words = "Returns how many different values the RESULT has there")
    void p46values() {
        due("none", emptied().groups(0), 0);
        due("ahead of the first find", counted(4, 6).groups(0), 0);
        due("one", found(5, 5).groups(0), 1);
        due("two, not neighbours", found(5, 6, 5, 6).groups(0), 2);
        due("the ends", found(MIN, MAX, 0, MIN).groups(0), 3);
        due("limited", limited(2, 5, 5, 6).groups(0), 1);
        due("the other column's", foundTwo(5, 5, 5).groups(1), 3);
        due("64", found(counting(64)).groups(0), 64);
    }

    private static Integer[] counting(int count) {
        Integer[] values = new Integer[count];
        for (int i = 0; i < count; i++) {
            values[i] = i;
        }
        return values;
    }

    @Told(promise = 46, words = "NULL counted as one more, if it is there")
    void p46null() {
        due("there", found(5, null, 6, null).groups(0), 3);
        due("not there", found(5, 6).groups(0), 2);
        due("alone", found(null, null).groups(0), 1);
        due("0 is another one", found(0, null, 0).groups(0), 2);
        due("limited away", limited(2, 5, 6, null).groups(0), 2);
    }

    @Told(promise = 46, words = "Throws `IndexOutOfBoundsException` if there is no such column")
    void p46noColumn() {
        noColumn(ColdFrame::groups);
    }

    // ---- 47

    /** Of each group of column 0 the account of column 1. */
    private void accounts(String what, ColdFrame x, int account, int... due) {
        for (int group = 0; group < due.length; group++) {
            due(what + ", group " + group, x.ofGroup(0, group, 1, account), due[group]);
        }
        due(what + ", groups", x.groups(0), due.length);
    }

    private static ColdFrame pairsOf(Integer... firstAndSecond) {
        ColdFrame x = store(2, 64);
        for (int i = 0; i < firstAndSecond.length; i += 2) {
            row(x, firstAndSecond[i], firstAndSecond[i + 1]);
        }
        x.find();
        return x;
    }

    @Told(promise = 47, words = "Of the groups of rows of the RESULT with the same value of a column (or "
            + "NULL there), by rising values, NULL last")
    void p47groups() {
        accounts("values", foundTwo(7, null, -7, 0, 7), 0, -7, 0, 7, 0);
        accounts("rows", foundTwo(7, null, -7, 0, 7), 1, 1, 1, 2, 1);
        accounts("the ends", foundTwo(MAX, null, MIN, 0), 0, MIN, 0, MAX, 0);
        accounts("NULL alone", foundTwo(null, null), 1, 2);
        ColdFrame x = foundTwo(7, null, -7, 0, 7);
        x.limit(3);
        accounts("limited", x, 0, -7, 7, 0);
        accounts("limited, rows", x, 1, 1, 1, 1);
        due("the RESULT is not sorted by it", result(x), "0 1 2");
    }

    @Told(promise = 47, words = "a group, from 0")
    void p47group() {
        due("the first one", foundTwo(7, 5).ofGroup(0, 0, 0, 0), 5);
        due("the last one", foundTwo(7, 5).ofGroup(0, 1, 0, 0), 7);
    }

    @Told(promise = 47, words = "another column, or the same")
    void p47same() {
        ColdFrame x = pairsOf(5, 8, 5, 9, 6, 1);
        due("another one", x.ofGroup(0, 0, 1, 2), 17);
        due("the same", x.ofGroup(0, 0, 0, 2), 10);
        due("by the second one", x.ofGroup(1, 0, 0, 2), 6);
    }

    @Told(promise = 47, words = "0 the value of the first column (0 for NULL)")
    void p47value() {
        accounts("value", pairsOf(5, 8, MIN, 9, null, 7, MAX, 6), 0, MIN, 5, MAX, 0);
        accounts("one group", pairsOf(null, 4), 0, 0);
    }

    @Told(promise = 47, words = "1 how many rows")
    void p47rows() {
        accounts("rows", pairsOf(5, null, 6, 9, 5, 1, null, 4, 5, null, null, null), 1, 3, 1, 2);
        accounts("64 rows", foundTwo(times(64, 3)), 1, 64);
    }

    @Told(promise = 47, words = "2 the sum of the values of the other column, NULL as 0, wrapped around to 32 bits")
    void p47sum() {
        accounts("sum", pairsOf(5, 8, 6, -9, 5, 2, null, 4, null, 5), 2, 10, -9, 9);
        accounts("NULL", pairsOf(5, null, 5, 3, 6, null), 2, 3, 0);
        accounts("just 32 bits", pairsOf(5, MAX - 1, 5, 1, 6, MIN + 1, 6, -1), 2, MAX, MIN);
        accounts("one more, one less", pairsOf(5, MAX, 5, 1, 6, MIN, 6, -1), 2, MIN, MAX);
    }

    @Told(promise = 47, words = "3 the least, and 4 the greatest of them, NULL not counted, 0 without any")
    void p47ends() {
        Integer[] above = {5, 8, 5, null, 5, 9, 6, null, null, 7};
        accounts("least above 0", pairsOf(above), 3, 8, 0, 7);
        accounts("greatest above 0", pairsOf(above), 4, 9, 0, 7);
        Integer[] below = {5, -8, 5, null, 5, -9, 6, null, null, -7};
        accounts("least below 0", pairsOf(below), 3, -9, 0, -7);
        accounts("greatest below 0", pairsOf(below), 4, -8, 0, -7);
        accounts("the least int", pairsOf(5, MAX, 5, MIN, 5, 0), 3, MIN);
        accounts("the greatest int", pairsOf(5, MIN, 5, MAX, 5, 0), 4, MAX);
        accounts("one row, least", pairsOf(5, MAX), 3, MAX);
        accounts("one row, greatest", pairsOf(5, MIN), 4, MIN);
    }

    @Told(promise = 47, words = "Throws `IndexOutOfBoundsException` if there is no such column")
    void p47noColumn() {
        onlyFrom(0, 1, BOUNDS, Scene::busy, (x, column) -> x.ofGroup(column, 0, 0, 1));
        onlyFrom(0, 1, BOUNDS, Scene::busy, (x, of) -> x.ofGroup(0, 0, of, 2));
        onlyFrom(0, 1, BOUNDS, Scene::busy, (x, of) -> x.ofGroup(0, 0, of, 0));
        none(BOUNDS, ColdFrame::new, (x, column) -> x.ofGroup(column, 0, 0, 0));
        refused("and no account", BOUNDS, Scene::busy, x -> x.ofGroup(2, 0, 0, 5));
        refused("no other column and no account", BOUNDS, Scene::busy, x -> x.ofGroup(0, 0, -1, -1));
    }

    @Told(promise = 47, words = "or no such group")
    void p47noGroup() {
        onlyFrom(0, 2, BOUNDS, Scene::busy, (x, group) -> x.ofGroup(0, group, 1, 1));
        onlyFrom(0, 1, BOUNDS, () -> found(5, null), (x, group) -> x.ofGroup(0, group, 0, 0));
        none(BOUNDS, ResultEdges::emptied, (x, group) -> x.ofGroup(0, group, 0, 0));
        none(BOUNDS, () -> counted(4, 6), (x, group) -> x.ofGroup(0, group, 0, 0));
        refused("and no account", BOUNDS, Scene::busy, x -> x.ofGroup(0, 3, 1, 5));
    }

    @Told(promise = 47, words = "Throws `IllegalArgumentException` if account is not 0 to 4")
    void p47account() {
        onlyFrom(0, 4, ARGUMENT, Scene::busy, (x, account) -> x.ofGroup(0, 0, 1, account));
    }

    // ---- 48 and 49

    @Told(promise = 48, words = "Keeps the RESULT, in place of the one kept ahead.")
    void p48keeps() {
        ColdFrame x = found(5, 6, 6);
        due("nothing is kept at first", x.pairs(0, 0), 0);
        x.keep();
        due("all", x.pairs(0, 0), 1 + 2 * 2);
        x.sort(0, true);
        x.limit(1);
        due("what is kept stays", x.pairs(0, 0), 2);
        x.keep();
        due("in its place", x.pairs(0, 0), 1);
        x.find();
        due("the one kept", x.pairs(0, 0), 2);
        killed(x, 0, 2);
        due("also if rows are deleted", x.pairs(0, 0), 2);
        x.limit(0);
        x.keep();
        x.clear();
        x.change(row(x, 5), 0, 5);
        x.find();
        due("none is kept", x.pairs(0, 0), 0);
    }

    @Told(promise = 48, words = "Returns how many rows were kept.")
    void p48howMany() {
        due("ahead of the first find", counted(4, 6).keep(), 0);
        due("none", emptied().keep(), 0);
        due("one", found(5).keep(), 1);
        due("limited", limited(2, 5, 6, 7).keep(), 2);
        due("deleted", killed(found(5, 6, 7), 0, 2).keep(), 3);
        ColdFrame x = limited(1, 5, 6, 7);
        x.keep();
        x.find();
        due("the first one alone", x.pairs(0, 0), 1);
        x.limit(1);
        due("which it pairs with", x.pairs(0, 0), 1);
        ColdFrame y = found(5, 6, 6);
        y.keep();
        y.where(0, 0, 6);
        y.find();
        due("all, though fewer are found then", y.pairs(0, 0), 2 * 2);
    }

    /** Kept are all; the RESULT is all, too. */
    private static ColdFrame kept(Integer... firstAndSecond) {
        ColdFrame x = pairsOf(firstAndSecond);
        x.keep();
        return x;
    }

    @Told(promise = 49, words = "how many pairs of a row of the RESULT and a row of the one kept there are")
    void p49pairs() {
        due("none is kept", pairsOf(5, 5).pairs(0, 0), 0);
        due("one of each", kept(5, 5).pairs(0, 0), 1);
        due("three of each", kept(5, 1, 5, 2, 5, 3).pairs(0, 0), 9);
        due("64 of each", kept(times(128, 7)).pairs(0, 0), 64 * 64);
        ColdFrame x = kept(5, 1, 5, 2, 6, 3);
        x.limit(1);
        due("one and three", x.pairs(0, 0), 2);
        x.limit(0);
        due("none and three", x.pairs(0, 0), 0);
        ColdFrame none = pairsOf(5, 5);
        none.limit(0);
        none.keep();
        none.find();
        due("one and none", none.pairs(0, 0), 0);
    }

    @Told(promise = 49, words = "so that the value of the column in the first one is that of the other "
            + "column in the second one")
    void p49columns() {
        ColdFrame x = kept(5, 1, 6, 5, 7, 5);
        due("the second column's 5 are two", x.pairs(0, 1), 2);
        x.limit(1);
        due("of the first row, its first column", x.pairs(0, 1), 2);
        due("of the first row, its second column", x.pairs(1, 0), 0);
        due("0 is a value", kept(0, 0).pairs(0, 1), 1);
        due("the ends are others", kept(MIN, MAX).pairs(0, 1), 0);
    }

    @Told(promise = 49, words = "another column, or the same")
    void p49same() {
        ColdFrame x = kept(5, 6, 6, 5, 5, 5);
        due("the first one", x.pairs(0, 0), 4 + 1);
        due("the second one", x.pairs(1, 1), 4 + 1);
        due("both", x.pairs(0, 1), 2 * 2 + 1);
    }

    @Told(promise = 49, words = "(NULL is no value)")
    void p49null() {
        due("NULL and NULL", kept(null, null).pairs(0, 1), 0);
        due("NULL and NULL of one column", kept(null, 5).pairs(0, 0), 0);
        due("NULL and 0", kept(null, 0).pairs(0, 1), 0);
        due("0 and NULL", kept(0, null).pairs(0, 1), 0);
        due("among others", kept(null, 5, 5, null).pairs(0, 1), 1);
    }

    @Told(promise = 49, words = "Throws `IndexOutOfBoundsException` if there is no such column")
    void p49noColumn() {
        noColumn((x, column) -> x.pairs(column, 0));
        noColumn((x, other) -> x.pairs(0, other));
        refused("neither", BOUNDS, Scene::busy, x -> x.pairs(2, -1));
    }
}
