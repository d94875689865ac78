/** What the terms tell of conditions and of the plan. */
final class PlanEdges extends Edges {
    private static final int NONE = 0;
    private static final int ALL = 1;
    private static final int BITMAPS = 2;
    private static final int BY_RUNS = 3;
    private static final int BY_CODES = 4;
    private static final int BY_VALUES = 5;

    /** One frame of eight rows, all BY VALUES: 0 to 7, the same mixed up, and 0 0 1 1 2 2 3 7. */
    private static ColdFrame values() {
        ColdFrame x = store(3, 8);
        int[] last = {0, 0, 1, 1, 2, 2, 3, 7};
        for (int i = 0; i < 8; i++) {
            row(x, i, 3 * i % 8, last[i]);
        }
        return x;
    }

    /** One frame of eight rows: 1 and a million by turns, a DICTIONARY; 0 to 7, BY VALUES. */
    private static ColdFrame codes() {
        ColdFrame x = store(2, 8);
        for (int i = 0; i < 8; i++) {
            row(x, i % 2 == 0 ? 1 : MILLION, i);
        }
        return x;
    }

    /** One frame of 24 rows: twelve of 1 and twelve of a million, RUNS; 0 to 23, BY VALUES. */
    private static ColdFrame runs() {
        ColdFrame x = store(2, 24);
        for (int i = 0; i < 24; i++) {
            row(x, i < 12 ? 1 : MILLION, i);
        }
        return x;
    }

    /** Each condition is a column, a test and v. */
    private static ColdFrame asking(ColdFrame x, int[]... conditions) {
        for (int[] c : conditions) {
            x.where(c[0], c[1], c[2]);
        }
        return x;
    }

    private static int[] is(int column, int test, int v) {
        return new int[] {column, test, v};
    }

    private static int cost(ColdFrame x, int[]... conditions) {
        x.clear();
        asking(x, conditions).find();
        return x.cost();
    }

    private static ColdFrame indexed(ColdFrame x) {
        x.index(0);
        return x;
    }

    // ---- conditions

    /** Of NULL and these values in a frame, and in the BUFFER, as rows 0 to 5. */
    private void fulfilling(int test, int v, String due) {
        Integer[] values = {null, MIN, -1, 0, 1, MAX};
        for (ColdFrame x : new ColdFrame[] {oneFrame(values), oneColumn(64, values)}) {
            asking(x, is(0, test, v)).find();
            due("test " + test + " of " + v + ", frames " + x.frames(), result(x), due);
        }
    }

    @Told(promise = TERMS, words = "0 is v")
    void t10is() {
        fulfilling(0, 0, "3");
        fulfilling(0, MIN, "1");
        fulfilling(0, MAX, "5");
        fulfilling(0, 2, "");
    }

    @Told(promise = TERMS, words = "1 is not v")
    void t11isNot() {
        fulfilling(1, 0, "1 2 4 5");
        fulfilling(1, MIN, "2 3 4 5");
        fulfilling(1, MAX, "1 2 3 4");
        fulfilling(1, 2, "1 2 3 4 5");
    }

    @Told(promise = TERMS, words = "2 less than v")
    void t12less() {
        fulfilling(2, 0, "1 2");
        fulfilling(2, 1, "1 2 3");
        fulfilling(2, MIN, "");
        fulfilling(2, MIN + 1, "1");
        fulfilling(2, MAX, "1 2 3 4");
    }

    @Told(promise = TERMS, words = "3 not more than v")
    void t13notMore() {
        fulfilling(3, 0, "1 2 3");
        fulfilling(3, -1, "1 2");
        fulfilling(3, MIN, "1");
        fulfilling(3, MAX - 1, "1 2 3 4");
        fulfilling(3, MAX, "1 2 3 4 5");
    }

    @Told(promise = TERMS, words = "4 more than v")
    void t14more() {
        fulfilling(4, 0, "4 5");
        fulfilling(4, -1, "3 4 5");
        fulfilling(4, MIN, "2 3 4 5");
        fulfilling(4, MAX - 1, "5");
        fulfilling(4, MAX, "");
    }

    @Told(promise = TERMS, words = "5 not less than v")
    void t15notLess() {
        fulfilling(5, 0, "3 4 5");
        fulfilling(5, 1, "4 5");
        fulfilling(5, MIN, "1 2 3 4 5");
        fulfilling(5, MIN + 1, "2 3 4 5");
        fulfilling(5, MAX, "5");
    }

    @Told(promise = TERMS, words = "6 is NULL")
    void t16isNull() {
        fulfilling(6, 0, "0");
    }

    @Told(promise = TERMS, words = "7 is not NULL")
    void t17isNotNull() {
        fulfilling(7, 0, "1 2 3 4 5");
    }

    @Told(promise = TERMS, words = "(6 and 7 without v)")
    void t18withoutV() {
        for (int v : new int[] {MIN, -1, 1, 5, MAX}) {
            fulfilling(6, v, "0");
            fulfilling(7, v, "1 2 3 4 5");
        }
    }

    @Told(promise = TERMS, words = "NULL fulfils no test but 6")
    void t19nullFulfils() {
        for (int test = 0; test < 8; test++) {
            for (int v : new int[] {MIN, -1, 0, 1, MAX}) {
                int due = test == 6 ? 1 : 0;
                due("in a frame, test " + test, asking(oneFrame((Integer) null), is(0, test, v)).find(), due);
                due("in the BUFFER, test " + test, asking(oneColumn(4, (Integer) null), is(0, test, v)).find(), due);
            }
        }
    }

    @Told(promise = TERMS, words = "Conditions are in groups, numbered from 0 as they are begun")
    void t20groups() {
        ColdFrame x = asking(counted(4, 4), is(0, 0, 1));
        for (int group = 1; group < 4; group++) {
            due("begun", x.orElse(), group);
            x.where(0, 2, group);
        }
        due("the first one", x.method(0, 0, 0), BY_VALUES);
        for (int group = 1; group < 4; group++) {
            due("the guess of group " + group, x.guess(group, 0, 0), group);
        }
    }

    @Told(promise = TERMS, words = "there is one group, empty, at first")
    void t21oneGroup() {
        due("empty", counted(4, 4).where(0, 0, 1), 1);
        refused("has no condition", BOUNDS, () -> counted(4, 4), x -> x.guess(0, 0, 0));
        refused("is the latest", STATE, () -> counted(4, 4), ColdFrame::orElse);
        due("the next one's number", asking(counted(4, 4), is(0, 0, 1)).orElse(), 1);
        due("none is stated", new ColdFrame().clear(), 0);
    }

    @Told(promise = TERMS, words = "A row is FOUND, if it is ALIVE")
    void t22foundAlive() {
        ColdFrame x = asking(counted(4, 6), is(0, 5, 0));
        due("all", x.find(), 6);
        x.delete(2);
        due("not in a frame", x.find(), 5);
        x.delete(5);
        due("not in the BUFFER", x.find(), 4);
        x.clear();
        due("nor without conditions", x.find(), 4);
        killed(x, 0, 5);
        due("none", x.find(), 0);
    }

    @Told(promise = TERMS, words = "and fulfils all conditions of one of the groups that has any")
    void t23foundByGroup() {
        ColdFrame x = asking(counted(4, 6), is(0, 4, 0), is(0, 2, 5), is(0, 1, 2), is(0, 1, 3));
        x.find();
        due("all of four", result(x), "1 4");
        x.orElse();
        x.find();
        due("an empty group finds none", result(x), "1 4");
        x.where(0, 0, 0);
        x.find();
        due("one of two groups", result(x), "0 1 4");
        x.orElse();
        x.where(0, 5, 4);
        x.find();
        due("once, though two find it", result(x), "0 1 4 5");
        x.orElse();
        x.where(0, 0, 2);
        x.find();
        due("the fourth group", result(x), "0 1 2 4 5");
    }

    @Told(promise = TERMS, words = "or if no group has any")
    void t24foundWithout() {
        ColdFrame x = counted(4, 6);
        due("none was stated", x.find(), 6);
        asking(x, is(0, 0, 77));
        due("one", x.find(), 0);
        x.clear();
        due("cleared", x.find(), 6);
    }

    // ---- the plan: order and what is SELECTED

    @Told(promise = TERMS, words = "the conditions of the group are ordered by their GUESS there, the smallest first")
    void t30smallestFirst() {
        ColdFrame x = values();
        due("3 and 2", cost(x, is(0, 2, 3), is(1, 2, 2)), 8 + 2);
        due("2 and 3", cost(x, is(1, 2, 2), is(0, 2, 3)), 8 + 2);
        due("3 and 4", cost(x, is(0, 2, 3), is(1, 2, 4)), 8 + 3);
        due("4 and 3", cost(x, is(1, 2, 4), is(0, 2, 3)), 8 + 3);
        // By the last column all rows but 7 stay, then 0 1 3 4 6, then 0 1 3 4.
        int[][] guess4To7 = {is(2, 2, 4), is(1, 2, 5), is(0, 2, 6), is(0, 4, 0)};
        for (int[] p : new int[][] {{0, 1, 2, 3}, {3, 2, 1, 0}, {2, 0, 3, 1}, {1, 3, 0, 2}}) {
            int cost = cost(x, guess4To7[p[0]], guess4To7[p[1]], guess4To7[p[2]], guess4To7[p[3]]);
            due("four, the first one's guess is " + (p[0] + 4), cost, 8 + 7 + 5 + 4);
        }
    }

    @Told(promise = TERMS, words = "the same ones as they were stated")
    void t31asStated() {
        ColdFrame x = values();
        due("fewer rows first", cost(x, is(0, 2, 3), is(2, 2, 3)), 8 + 3);
        due("more rows first", cost(x, is(2, 2, 3), is(0, 2, 3)), 8 + 6);
        due("the second guess is less by 1", cost(x, is(2, 2, 4), is(0, 2, 3)), 8 + 3);
        due("the first guess is less by 1", cost(x, is(2, 2, 3), is(0, 2, 4)), 8 + 6);
        due("three of the same", cost(x, is(2, 2, 3), is(0, 2, 3), is(1, 2, 3)), 8 + 6 + 3);
        due("the other way round", cost(x, is(1, 2, 3), is(0, 2, 3), is(2, 2, 3)), 8 + 3 + 1);
    }

    @Told(promise = TERMS, words = "SELECTED are at first all rows of the frame, also those not ALIVE")
    void t32selectedAtFirst() {
        due("all ALIVE", cost(values(), is(0, 2, 3)), 8);
        due("one is not", cost(killed(values(), 0, 0), is(0, 2, 3)), 8);
        due("none is", cost(killed(values(), 0, 7), is(0, 2, 3)), 8);
        due("none is, two conditions", cost(killed(values(), 0, 7), is(0, 2, 3), is(1, 2, 3)), 8 + 3);
        due("64 rows", cost(counted(64, 64), is(0, 2, 3), is(0, 1, 1)), 64 + 3);
        due("clustered", cost(clustered(killed(values(), 4, 7)), is(1, 2, 6)), 4);
    }

    private static ColdFrame clustered(ColdFrame x) {
        x.cluster(0, 0);
        return x;
    }

    @Told(promise = TERMS, words = "condition by condition those that fulfil it stay SELECTED")
    void t33staySelected() {
        ColdFrame x = values();
        due("all but one stay", cost(x, is(0, 2, 7), is(1, 1, 5)), 8 + 7);
        due("one stays", cost(x, is(0, 2, 1), is(1, 2, 5)), 8 + 1);
        // 0 1 2 3 4, of these 0 1 3 4.
        due("those left by all ahead of it", cost(x, is(0, 2, 5), is(1, 2, 5), is(2, 2, 6)), 8 + 5 + 4);
    }

    @Told(promise = TERMS, words = "as soon as none is, the others are left out")
    void t34leftOut() {
        ColdFrame x = oneFrame(0, 2, 4, 6);
        due("one row stays", cost(x, is(0, 0, 2), is(0, 1, 6)), 4 + 1);
        due("none stays", cost(x, is(0, 0, 3), is(0, 1, 6)), 4);
        due("none of three", cost(x, is(0, 0, 3), is(0, 1, 6), is(0, 1, 5)), 4);
        due("none behind two", cost(x, is(0, 0, 2), is(0, 0, 4), is(0, 1, 5)), 4 + 1);
        due("none by the zone", cost(x, is(0, 1, 6), is(0, 0, 7)), 0);
    }

    // ---- the plan: methods and costs

    private void methodDue(String what, ColdFrame x, int[] condition, int due) {
        x.clear();
        asking(x, condition);
        due("method, " + what, x.method(0, 0, 0), due);
    }

    @Told(promise = TERMS, words = "Each condition that is looked at has a METHOD there, the first one that is "
            + "so, and a COST")
    void t40firstMethod() {
        ColdFrame runs = indexed(runs());
        methodDue("NONE ahead of BITMAPS", runs, is(0, 0, 0), NONE);
        methodDue("ALL ahead of BITMAPS", runs, is(0, 5, 1), ALL);
        methodDue("BITMAPS ahead of RUNS", runs, is(0, 5, 2), BITMAPS);
        ColdFrame codes = indexed(codes());
        methodDue("BITMAPS ahead of CODES", codes, is(0, 5, 2), BITMAPS);
        methodDue("NONE ahead of CODES", codes(), is(0, 4, MILLION), NONE);
        methodDue("ALL ahead of RUNS", runs(), is(0, 7, 0), ALL);
        methodDue("NONE ahead of VALUES", values(), is(0, 0, 8), NONE);
        methodDue("ALL ahead of VALUES", values(), is(0, 1, 8), ALL);
        methodDue("BITMAPS ahead of VALUES", indexed(values()), is(0, 1, 7), BITMAPS);
    }

    @Told(promise = TERMS, words = "NONE: by the ZONE no value can fulfil it (see below): 0.")
    void t41none() {
        for (ColdFrame x : new ColdFrame[] {values(), indexed(values()), codes(), runs()}) {
            due("costs nothing", cost(x, is(0, 0, -1)), 0);
            due("is NONE", x.method(0, 0, 0), NONE);
            due("is passed over", x.passed(), 1);
        }
        due("the others are left out", cost(values(), is(1, 2, 4), is(0, 0, -1)), 0);
    }

    @Told(promise = TERMS, words = "ALL: by the ZONE every row must: 0.")
    void t42all() {
        for (ColdFrame x : new ColdFrame[] {values(), indexed(values()), codes(), runs()}) {
            due("costs nothing", cost(x, is(0, 5, 0)), 0);
            due("is ALL", x.method(0, 0, 0), ALL);
            due("all stay", x.found(), x.alive());
        }
        due("the others are looked at", cost(values(), is(0, 5, 0), is(1, 2, 4)), 8);
    }

    @Told(promise = TERMS, words = "BITMAPS: the column is INDEXED and has bitmaps here, and the test is 0 to 5")
    void t43bitmaps() {
        ColdFrame x = indexed(oneFrame(0, 2, 4, null, 6));
        for (int test = 0; test < 8; test++) {
            methodDue("test " + test, x, is(0, test, 2), test < 6 ? BITMAPS : BY_VALUES);
        }
        x.index(0);
        methodDue("not INDEXED", x, is(0, 0, 2), BY_VALUES);
        ColdFrame of16 = indexed(counted(16, 16));
        methodDue("16 values", of16, is(0, 0, 2), BITMAPS);
        ColdFrame of17 = indexed(counted(17, 17));
        methodDue("17 values", of17, is(0, 0, 2), BY_VALUES);
        of17.delete(16);
        methodDue("17, one of them deleted", of17, is(0, 0, 2), BY_VALUES);
        of17.cluster(0, 0);
        methodDue("clustered", of17, is(0, 0, 2), BITMAPS);
        ColdFrame other = values();
        other.index(1);
        methodDue("another column is INDEXED", other, is(0, 0, 2), BY_VALUES);
    }

    @Told(promise = TERMS, words = "as many as there are different values in the frame that fulfil it")
    void t44costOfBitmaps() {
        ColdFrame x = indexed(oneFrame(0, 2, 4, null, 6, 6, 2));
        due("is 2", cost(x, is(0, 0, 2)), 1);
        due("is 3, which there is not", cost(x, is(0, 0, 3)), 0);
        due("is not 2", cost(x, is(0, 1, 2)), 3);
        due("is not 3", cost(x, is(0, 1, 3)), 4);
        due("less than 4", cost(x, is(0, 2, 4)), 2);
        due("not more than 4", cost(x, is(0, 3, 4)), 3);
        due("more than 4", cost(x, is(0, 4, 4)), 1);
        due("not less than 4", cost(x, is(0, 5, 4)), 2);
        due("all but NULL", cost(x, is(0, 5, 0)), 4);
        killed(x, 0, 6);
        due("none ALIVE", cost(x, is(0, 1, 3)), 4);
        due("of 16", cost(indexed(counted(16, 16)), is(0, 1, 3)), 15);
        due("whatever is SELECTED", cost(indexed(values()), is(0, 2, 3), is(1, 2, 2)), 8 + 3);
    }

    @Told(promise = TERMS, words = "BY RUNS: the form is RUNS: runs.")
    void t45byRuns() {
        ColdFrame x = runs();
        due("the form", x.formOf(0, 0), 2);
        due("first", cost(x, is(0, 0, 1)), 2);
        due("whatever is SELECTED", cost(x, is(0, 0, 1), is(1, 2, 5)), 24 + 2);
        methodDue("that", x, is(0, 0, 1), BY_RUNS);
        ColdFrame nulls = oneFrame(joined(times(9, null), times(50, 3)));
        due("the form with NULL", nulls.formOf(0, 0), 2);
        due("test 6", cost(nulls, is(0, 6, 0)), 2);
        due("test 7, INDEXED", cost(indexed(nulls), is(0, 7, 0)), 2);
    }

    @Told(promise = TERMS, words = "BY CODES: the form is DICTIONARY: distinct, and SELECTED ahead of it.")
    void t46byCodes() {
        ColdFrame x = codes();
        due("the form", x.formOf(0, 0), 3);
        due("first", cost(x, is(0, 0, 1)), 2 + 8);
        due("behind one that leaves three", cost(x, is(0, 0, 1), is(1, 2, 3)), 8 + (2 + 3));
        due("behind one that leaves one", cost(x, is(0, 0, 1), is(1, 2, 1)), 8 + (2 + 1));
        methodDue("that", x, is(0, 0, 1), BY_CODES);
        due("NULL is not distinct", cost(oneFrame(null, 4, 4000, null, 4), is(0, 6, 1)), 2 + 5);
    }

    @Told(promise = TERMS, words = "BY VALUES: SELECTED ahead of it.")
    void t47byValues() {
        int[] forms = {0, 1, 4};
        ColdFrame[] all = {oneFrame(3, 1000, 70), oneFrame(3, 3, 4), oneFrame(3, 4, 8)};
        for (int i = 0; i < 3; i++) {
            due("the form", all[i].formOf(0, 0), forms[i]);
            due("form " + forms[i], cost(all[i], is(0, 1, 3)), 3);
            methodDue("form " + forms[i], all[i], is(0, 1, 3), BY_VALUES);
        }
        due("behind one that leaves two", cost(values(), is(0, 2, 2), is(1, 2, 7)), 8 + 2);
    }

    // ---- the plan: NONE and ALL

    /** Each line: a test, v and the METHOD due. */
    private void methodsDue(ColdFrame x, int[]... lines) {
        for (int[] line : lines) {
            methodDue("test " + line[0] + " of " + line[1], x, is(0, line[0], line[1]), line[2]);
        }
    }

    @Told(promise = TERMS, words = "test 6: NONE if nulls is 0, ALL if nulls is n")
    void t50test6() {
        methodsDue(oneFrame(3, 4, 8), is(6, 0, NONE));
        methodsDue(oneFrame(null, 4, 8), is(6, 0, BY_VALUES));
        methodsDue(oneFrame(null, null, 800), is(6, 0, BY_CODES));
        methodsDue(oneFrame(null, null, null), is(6, 0, ALL));
        methodsDue(oneFrame((Integer) null), is(6, 0, ALL));
        methodsDue(oneFrame(0), is(6, 0, NONE));
    }

    @Told(promise = TERMS, words = "7 the other way round")
    void t51test7() {
        methodsDue(oneFrame(3, 4, 8), is(7, 0, ALL));
        methodsDue(oneFrame(null, 4, 8), is(7, 0, BY_VALUES));
        methodsDue(oneFrame(null, null, 800), is(7, 0, BY_CODES));
        methodsDue(oneFrame(null, null, null), is(7, 0, NONE));
        methodsDue(oneFrame((Integer) null), is(7, 0, NONE));
        methodsDue(oneFrame(0), is(7, 0, ALL));
    }

    @Told(promise = TERMS, words = "Tests 0 to 5: NONE if nulls is n")
    void t52onlyNull() {
        for (int test = 0; test < 6; test++) {
            for (int v : new int[] {MIN, -1, 0, 1, MAX}) {
                methodsDue(oneFrame(null, null, null), is(test, v, NONE));
            }
        }
        ColdFrame one = oneFrame(null, null, 800);
        methodsDue(one, is(0, 800, BY_CODES), is(1, 801, BY_CODES), is(2, 801, BY_CODES), is(3, 800, BY_CODES),
                is(4, 799, BY_CODES), is(5, 800, BY_CODES));
    }

    @Told(promise = TERMS, words = "or if no whole number from least to greatest fulfils the test")
    void t53noneFulfils() {
        for (ColdFrame x : new ColdFrame[] {oneFrame(3, 5, 8, 8), oneFrame(3, null, 5, 8, 8)}) {
            methodsDue(x, is(0, 2, NONE), is(0, 3, BY_VALUES), is(0, 8, BY_VALUES), is(0, 9, NONE));
            methodsDue(x, is(0, 6, BY_VALUES), is(0, MIN, NONE), is(0, MAX, NONE));
            methodsDue(x, is(2, 3, NONE), is(2, 4, BY_VALUES), is(2, MIN, NONE));
            methodsDue(x, is(3, 2, NONE), is(3, 3, BY_VALUES), is(3, MIN, NONE));
            methodsDue(x, is(4, 8, NONE), is(4, 7, BY_VALUES), is(4, MAX, NONE));
            methodsDue(x, is(5, 9, NONE), is(5, 8, BY_VALUES), is(5, MAX, NONE));
        }
    }

    @Told(promise = TERMS, words = "(of test 1 that is: least and greatest are v")
    void t54noneIsNot() {
        methodsDue(oneFrame(7, 7), is(1, 7, NONE), is(1, 6, ALL), is(1, 8, ALL));
        methodsDue(oneFrame(7, 8), is(1, 7, BY_VALUES), is(1, 8, BY_VALUES));
        methodsDue(oneFrame(7, null, 7), is(1, 7, NONE), is(1, 6, BY_CODES), is(1, 8, BY_CODES));
        methodsDue(oneFrame(MIN), is(1, MIN, NONE), is(1, MAX, ALL));
        methodsDue(oneFrame(MAX), is(1, MAX, NONE), is(1, MIN, ALL));
        methodsDue(oneFrame(null, 0, 0), is(1, 0, NONE));
    }

    @Told(promise = TERMS, words = "of the others likewise by the ends)")
    void t55byTheEnds() {
        ColdFrame gap = oneFrame(3, 3, 8);
        methodsDue(gap, is(0, 5, BY_VALUES), is(0, 4, BY_VALUES), is(0, 7, BY_VALUES));
        methodsDue(gap, is(2, 4, BY_VALUES), is(3, 7, BY_VALUES), is(4, 4, BY_VALUES), is(5, 7, BY_VALUES));
        due("the zone is not asked for the values between", cost(gap, is(0, 5, 0)), 0);
        due("so they are looked at", cost(gap, is(0, 0, 5)), 3);
        ColdFrame wide = oneFrame(MIN, 0, MAX);
        methodsDue(wide, is(0, MIN, BY_VALUES), is(0, MAX, BY_VALUES), is(2, MIN, NONE), is(2, MIN + 1, BY_VALUES));
        methodsDue(wide, is(3, MIN, BY_VALUES), is(3, MAX - 1, BY_VALUES), is(4, MAX, NONE));
        methodsDue(wide, is(4, MAX - 1, BY_VALUES), is(5, MAX, BY_VALUES), is(5, MIN + 1, BY_VALUES));
    }

    @Told(promise = TERMS, words = "ALL if nulls is 0, and all whole numbers from least to greatest do")
    void t56all() {
        ColdFrame x = oneFrame(3, 5, 8, 8);
        methodsDue(x, is(1, 2, ALL), is(1, 3, BY_VALUES), is(1, 8, BY_VALUES), is(1, 9, ALL), is(1, 6, BY_VALUES));
        methodsDue(x, is(2, 9, ALL), is(2, 8, BY_VALUES), is(2, MAX, ALL));
        methodsDue(x, is(3, 8, ALL), is(3, 7, BY_VALUES), is(3, MAX, ALL));
        methodsDue(x, is(4, 2, ALL), is(4, 3, BY_VALUES), is(4, MIN, ALL));
        methodsDue(x, is(5, 3, ALL), is(5, 4, BY_VALUES), is(5, MIN, ALL));
        methodsDue(oneFrame(7, 7), is(0, 7, ALL), is(0, 6, NONE), is(0, 8, NONE));
        methodsDue(oneFrame(7, 8), is(0, 7, BY_VALUES), is(0, 8, BY_VALUES));
        ColdFrame wide = oneFrame(MIN, 0, MAX);
        methodsDue(wide, is(3, MAX, ALL), is(5, MIN, ALL), is(2, MAX, BY_VALUES), is(4, MIN, BY_VALUES));
        ColdFrame oneNull = oneFrame(3, 5, null, 8, 8);
        methodsDue(oneNull, is(1, 9, BY_VALUES), is(2, MAX, BY_VALUES), is(3, 8, BY_VALUES), is(4, 2, BY_VALUES));
        methodsDue(oneNull, is(5, MIN, BY_VALUES), is(7, 0, BY_VALUES));
        methodsDue(oneFrame(7, null, 7), is(0, 7, BY_CODES));
    }

    // ---- the plan: guesses

    private void guessDue(ColdFrame x, int test, int v, int due) {
        x.clear();
        x.where(0, test, v);
        due("test " + test + " of " + v, x.guess(0, 0, 0), due);
    }

    /** Of one v after the other. */
    private void guessesDue(ColdFrame x, int test, int firstV, int... due) {
        for (int i = 0; i < due.length; i++) {
            guessDue(x, test, firstV + i, due[i]);
        }
    }

    @Told(promise = TERMS, words = "a / b is cut towards 0")
    void t60cut() {
        guessesDue(oneFrame(3, 5, 8, 8), 2, 4, 0, 1, 2, 2, 3);
        guessDue(oneFrame(1, 2, 3, 4, 5, 5, 5), 0, 5, 1);
        guessDue(oneFrame(1, 2, 2, 2, 2, 2, 2), 0, 2, 3);
    }

    @Told(promise = TERMS, words = "GUESS: 0 with NONE, n with ALL")
    void t61noneAndAll() {
        for (int[] v : new int[][] {{0, 2, 0}, {0, 9, 0}, {1, 2, 4}, {1, 9, 4}, {2, 3, 0}, {2, 9, 4}, {3, 2, 0},
            {3, 8, 4}, {4, 8, 0}, {4, 2, 4}, {5, 9, 0}, {5, 3, 4}, {6, 0, 0}, {7, 0, 4}}) {
            guessDue(oneFrame(3, 5, 8, 8), v[0], v[1], v[2]);
        }
        guessDue(oneFrame(3, 3, 3), 1, 3, 0);
        guessDue(oneFrame(3, 3, 3), 0, 3, 3);
        guessDue(oneFrame(null, null, null), 6, 0, 3);
        guessDue(oneFrame(null, null, null), 7, 0, 0);
        for (int test = 0; test < 6; test++) {
            guessDue(oneFrame(null, null, null), test, 0, 0);
        }
        guessDue(killed(oneFrame(3, 5, 8, 8), 0, 3), 1, 2, 4);
    }

    @Told(promise = TERMS, words = "otherwise, with m = n - nulls: test 0: m / distinct")
    void t62guessIs() {
        guessesDue(oneFrame(3, 5, 8, 8), 0, 2, 0, 1, 1, 1, 1, 1, 1, 0);
        guessDue(oneFrame(3, 3, 8, 8), 0, 8, 2);
        guessDue(oneFrame(3, 3, 3, 8, 8), 0, 3, 2);
        guessDue(oneFrame(3, 3, 3, 8, 8, 8), 0, 3, 3);
        guessDue(oneFrame(null, 3, 3, 3, 8, 8, 8), 0, 3, 3);
        guessDue(oneFrame(null, null, 3, 3, 3, 8, 8), 0, 3, 2);
        guessDue(oneFrame(null, 3, 3), 0, 3, 2);
        guessDue(oneFrame(null, 3), 0, 3, 1);
        guessDue(killed(oneFrame(3, 3, 8, 8), 0, 2), 0, 8, 2);
    }

    @Told(promise = TERMS, words = "1: m - m / distinct")
    void t63guessIsNot() {
        guessesDue(oneFrame(3, 5, 8, 8), 1, 2, 4, 3, 3, 3, 3, 3, 3, 4);
        guessDue(oneFrame(3, 3, 8, 8), 1, 8, 2);
        guessDue(oneFrame(3, 3, 3, 8, 8), 1, 3, 3);
        guessDue(oneFrame(null, 3, 3, 3, 8, 8), 1, 9, 3);
        guessDue(oneFrame(null, 3, 3), 1, 4, 0);
        guessDue(oneFrame(null, 3, 3), 1, 3, 0);
    }

    /** 64 rows: 63 times 0, and once the greatest number of 26 bits. */
    private static ColdFrame of26Bits() {
        return oneFrame(joined(times(63, 0), (1 << 26) - 1));
    }

    @Told(promise = TERMS, words = "2 and 3: m * (v - least) / (greatest - least + 1)")
    void t64guessLess() {
        guessesDue(oneFrame(3, 5, 8, 8), 2, 3, 0, 0, 1, 2, 2, 3, 4);
        guessesDue(oneFrame(3, 5, 8, 8), 3, 2, 0, 0, 0, 1, 2, 2, 4);
        guessesDue(oneFrame(null, -3, 5, 4), 2, -3, 0, 0, 0, 1, 1, 1);
        ColdFrame wide = oneFrame(MIN, null, MAX);
        guessesDue(wide, 2, -1, 0, 1);
        guessesDue(wide, 3, -1, 0, 1);
        guessDue(wide, 2, MAX, 1);
        guessDue(wide, 3, MAX, 1);
        guessDue(wide, 3, MIN, 0);
        guessesDue(of26Bits(), 2, (1 << 25) - 1, 31, 32);
        guessDue(of26Bits(), 2, (1 << 26) - 1, 63);
    }

    @Told(promise = TERMS, words = "4 and 5: m * (greatest - v) / (greatest - least + 1)")
    void t65guessMore() {
        guessesDue(oneFrame(3, 5, 8, 8), 4, 2, 4, 3, 2, 2, 1, 0, 0);
        guessesDue(oneFrame(3, 5, 8, 8), 5, 3, 4, 2, 2, 1, 0, 0, 0);
        guessesDue(oneFrame(null, -3, 5, 4), 4, 0, 1, 1, 1, 0, 0, 0);
        ColdFrame wide = oneFrame(MIN, null, MAX);
        guessesDue(wide, 4, -1, 1, 0);
        guessesDue(wide, 5, -1, 1, 0);
        guessDue(wide, 4, MIN, 1);
        guessDue(wide, 5, MIN, 1);
        guessDue(wide, 5, MAX, 0);
        guessesDue(of26Bits(), 4, (1 << 25) - 1, 32, 31);
        guessDue(of26Bits(), 4, 0, 63);
    }

    @Told(promise = TERMS, words = "of 2 to 5, if that is above m, m")
    void t66notAboveM() {
        ColdFrame x = oneFrame(3, null, 8, 8);
        guessesDue(x, 2, 8, 2, 3, 3, 3, 3);
        guessesDue(x, 3, 8, 2, 3, 3, 3, 3);
        guessesDue(x, 4, -1, 3, 3, 3, 3, 2);
        guessesDue(x, 5, -1, 3, 3, 3, 3, 2);
        guessDue(x, 2, MAX, 3);
        guessDue(x, 3, MAX, 3);
        guessDue(x, 4, MIN, 3);
        guessDue(x, 5, MIN, 3);
        guessDue(oneFrame(null, MIN), 2, MAX, 1);
        guessDue(oneFrame(null, MAX), 5, MIN, 1);
    }

    @Told(promise = TERMS, words = "6: nulls")
    void t67guessNull() {
        guessDue(oneFrame(null, 5, 6), 6, 0, 1);
        guessDue(oneFrame(null, null, 6), 6, 0, 2);
        guessDue(killed(oneFrame(null, null, 6), 0, 1), 6, 0, 2);
    }

    @Told(promise = TERMS, words = "7: m")
    void t68guessNotNull() {
        guessDue(oneFrame(null, 5, 6), 7, 0, 2);
        guessDue(oneFrame(null, null, 6), 7, 0, 1);
        guessDue(killed(oneFrame(null, null, 6), 2, 2), 7, 0, 1);
    }

    // ---- the plan: the BUFFER, and all together

    /** Eight rows in the BUFFER: 0 to 7, and the same mixed up. */
    private static ColdFrame buffered() {
        ColdFrame x = store(2, 64);
        for (int i = 0; i < 8; i++) {
            row(x, i, 3 * i % 8);
        }
        return x;
    }

    @Told(promise = TERMS, words = "the conditions as they were stated, each BY VALUES")
    void t70bufferAsStated() {
        due("fewer rows first", cost(buffered(), is(0, 2, 3), is(1, 2, 5)), 8 + 3);
        due("more rows first", cost(buffered(), is(1, 2, 5), is(0, 2, 3)), 8 + 5);
        due("one row last", cost(buffered(), is(1, 2, 5), is(0, 0, 3)), 8 + 5);
        due("INDEXED", cost(indexed(buffered()), is(0, 2, 3), is(1, 2, 5)), 8 + 3);
        due("none could", cost(buffered(), is(0, 0, 77)), 8);
        due("all must", cost(buffered(), is(0, 5, 0), is(0, 7, 0)), 8 + 8);
        due("test 6", cost(buffered(), is(0, 6, 0)), 8);
        due("all the same", cost(oneColumn(64, 7, 7, 7, 7), is(0, 0, 7)), 4);
    }

    @Told(promise = TERMS, words = "one behind another in the same way")
    void t71bufferLeftOut() {
        due("one stays", cost(buffered(), is(0, 0, 5), is(1, 2, 5), is(1, 2, 4)), 8 + 1);
        due("one stays twice", cost(buffered(), is(0, 0, 3), is(1, 2, 5), is(1, 2, 4)), 8 + 1 + 1);
        due("none stays", cost(buffered(), is(0, 0, 8), is(1, 2, 5), is(1, 2, 4)), 8);
        ColdFrame x = asking(buffered(), is(0, 0, 8));
        x.orElse();
        due("of two groups", x.where(1, 2, 3) + x.find(), 1 + 3);
        due("each of them", x.cost(), 8 + 8);
    }

    @Told(promise = TERMS, words = "SELECTED are at first all rows of the BUFFER")
    void t72bufferSelected() {
        due("one is not ALIVE", cost(killed(buffered(), 0, 0), is(0, 2, 3), is(1, 2, 5)), 8 + 3);
        due("none is", cost(killed(buffered(), 0, 7), is(0, 2, 3), is(1, 2, 5)), 8 + 3);
        due("63 rows", cost(counted(64, 63), is(0, 2, 3), is(0, 1, 1)), 63 + 3);
        due("one row", cost(counted(4, 1), is(0, 0, 0)), 1);
        due("no row", cost(store(1, 4), is(0, 0, 0)), 0);
    }

    @Told(promise = TERMS, words = "Without conditions in any group all costs nothing.")
    void t73withoutConditions() {
        ColdFrame x = counted(4, 6);
        due("none stated", cost(x), 0);
        due("one", cost(x, is(0, 0, 1)), 4 + 2);
        due("cleared", cost(x), 0);
        asking(x, is(0, 0, 1)).orElse();
        x.find();
        due("one group has one, the other none", x.cost(), 4 + 2);
    }

    @Told(promise = TERMS, words = "The COST of a search is the sum of all these.")
    void t74sum() {
        ColdFrame x = counted(4, 10);
        due("two frames and the BUFFER", cost(x, is(0, 1, 2), is(0, 1, 6)), 4 + 4 + 2 + 2);
        x.orElse();
        x.where(0, 4, 6);
        x.find();
        due("and the second group", x.cost(), 12 + 4 + 2);
    }
}
