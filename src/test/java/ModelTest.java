import java.lang.reflect.InvocationTargetException;
import java.lang.reflect.Method;
import java.util.ArrayList;
import java.util.List;

/**
 * Runs of 512 calls, wrong ones among them, on a ColdFrame and on a Model: each must answer the
 * same, or throw just the same class of exception.
 */
public final class ModelTest {
    private static final int RUNS = 1500;
    private static final int CALLS = 512;
    private static final Integer[] WILD = {
        Integer.MIN_VALUE, Integer.MIN_VALUE + 1, -65536, -9, -1, 0, 1, 5, 63, 64, 65, 599, 600, 601,
        Integer.MAX_VALUE - 1, Integer.MAX_VALUE,
    };
    // What the arguments mean: column, row, frame, value, bool, size, test, group, place, form,
    // account, most; times how often the call is drawn.
    private static final String[] CALLS_DRAWN = {
        "delete r 12", "change rcv 8", "setSize s 2", "seal - 3", "cluster fc 5", "merge f 4",
        "index c 3", "columns - 1", "rows - 1", "alive - 1", "frames - 1", "inBuffer - 1",
        "isAlive r 2", "isNull rc 2", "valueOf rc 2", "frameOf r 3", "rowsIn f 2", "rowAt fp 3",
        "formOf fc 3", "bytesAs fco 6", "bytes f 2", "bitmapBytes - 3", "nulls fc 2",
        "distinct fc 2", "runs fc 2", "least fc 2", "greatest fc 2", "where ctv 20", "orElse - 8",
        "clear - 4", "find - 9", "cost - 5", "passed - 4", "guess gpf 12", "method gpf 12",
        "found - 2", "foundAt p 3", "sort cb 4", "limit m 1", "sum c 2", "mean c 3", "groups c 3",
        "ofGroup cgca 8", "keep - 3", "pairs cc 4", "costWithout - 4", "wouldFind - 3",
        "bestCluster f 3", "digest - 3", "addColumn - 1", "give cv 1", "add - 1",
    };

    private final Check check = new Check();
    private Dice dice;
    private ColdFrame program;
    private Model model;
    private List<String> log;
    private int columnsMeant;
    private int flavour;
    private int call;

    public static void main(String[] args) {
        ModelTest test = new ModelTest();
        for (int run = 0; run < RUNS; run++) {
            test.run(run);
        }
        test.check.end("ModelTest");
    }

    private void run(int seed) {
        dice = new Dice(seed);
        program = new ColdFrame();
        model = new Model();
        log = new ArrayList<>();
        columnsMeant = dice.oneIn(3) ? 1 : 1 + dice.roll(8);
        flavour = dice.roll(6);
        int filling = 2 + dice.roll(12);
        call = 0;
        boolean isAsDue = true;
        while (isAsDue && call < CALLS - 10) {
            if (model.columns() < columnsMeant && model.rows() == 0 && !dice.oneIn(9)) {
                isAsDue = same("addColumn");
            } else if (call < 40 && dice.oneIn(20)) {
                isAsDue = same("setSize", 4 + dice.roll(dice.oneIn(2) ? 8 : 61));
            } else if (dice.roll(16) < filling || call < 60) {
                isAsDue = addRow();
            } else {
                isAsDue = draw();
            }
        }
        check.due("run " + seed + " at its end", isAsDue && same("digest"), true);
    }

    private boolean addRow() {
        boolean isAsDue = true;
        for (int c = 0; c < model.columns() && isAsDue; c++) {
            if (!dice.oneIn(flavour == 3 ? 2 : 9) && (model.columns() < 4 || !dice.oneIn(2))) {
                isAsDue = same("give", c, value(c));
            }
        }
        return isAsDue && same("add");
    }

    private int value(int column) {
        if (dice.oneIn(100)) {
            return dice.of(WILD);
        }
        int rows = model.rows();
        switch ((flavour + column) % 6) {
            case 0:
                return dice.roll(3);
            case 1:
                return rows / (1 + flavour * 3);
            case 2:
                return 1000 * rows + dice.roll(900) - 90000;
            case 3:
                return dice.roll(20) - 10;
            case 4:
                return (dice.roll(Integer.MAX_VALUE) << 1) ^ dice.roll(4);
            default:
                return 7 + (dice.oneIn(12) ? 1 : 0);
        }
    }

    private boolean draw() {
        int all = 0;
        for (String drawn : CALLS_DRAWN) {
            all += Integer.parseInt(drawn.split(" ")[2]);
        }
        int left = dice.roll(all);
        for (String drawn : CALLS_DRAWN) {
            String[] parts = drawn.split(" ");
            left -= Integer.parseInt(parts[2]);
            if (left < 0) {
                return same(parts[0], arguments(parts[1]));
            }
        }
        throw new IllegalStateException("nothing drawn");
    }

    private Object[] arguments(String kinds) {
        List<Object> arguments = new ArrayList<>();
        int column = 0;
        for (char kind : kinds.equals("-") ? new char[0] : kinds.toCharArray()) {
            if (kind == 'b') {
                arguments.add(dice.oneIn(2));
            } else {
                int argument = dice.oneIn(40) ? dice.of(WILD) : argument(kind, column);
                column = kind == 'c' ? argument : column;
                arguments.add(argument);
            }
        }
        return arguments.toArray();
    }

    /** Mostly one that there is, now and then the one just behind or ahead of these. */
    private int argument(char kind, int column) {
        switch (kind) {
            case 'c':
                return near(model.columns());
            case 'r':
                return near(model.rows());
            case 'f':
                return near(model.frames());
            case 'v':
                return valueThere(column);
            case 's':
                return dice.oneIn(4) ? 3 + dice.roll(63) : 4 + dice.roll(20);
            case 't':
                return near(8);
            case 'g':
                return near(4);
            case 'p':
                return near(dice.oneIn(2) ? 2 : 9);
            case 'o':
                return near(5);
            case 'a':
                return near(5);
            default:
                return near(model.found());
        }
    }

    private int near(int count) {
        return dice.oneIn(25) ? (dice.oneIn(2) ? -1 : count) : dice.roll(Math.max(1, count));
    }

    /** A value that the column has, or one next to it, so that the ends of zones are met. */
    private int valueThere(int column) {
        boolean isThere = column >= 0 && column < model.columns() && model.rows() > 0;
        if (!isThere || dice.oneIn(8)) {
            return value(Math.abs(column % 8));
        }
        return model.valueOf(dice.roll(model.rows()), column) + dice.roll(3) - 1;
    }

    private boolean same(String name, Object... arguments) {
        call++;
        log.add(name + List.of(arguments));
        Object got = answer(program, name, arguments);
        Object want = answer(model, name, arguments);
        check.due(name + List.of(arguments), got, want);
        boolean isAsDue = got.equals(want);
        if (isAsDue && (dice.oneIn(30) || want.toString().startsWith("throws") && dice.oneIn(4))) {
            isAsDue = program.digest() == model.digest();
            check.due("digest behind " + name + List.of(arguments), isAsDue, true);
        }
        if (!isAsDue) {
            log.forEach(System.out::println);
        }
        return isAsDue;
    }

    private static Object answer(Object asked, String name, Object[] arguments) {
        Class<?>[] types = new Class<?>[arguments.length];
        for (int i = 0; i < arguments.length; i++) {
            types[i] = arguments[i] instanceof Boolean ? boolean.class : int.class;
        }
        try {
            Method method = asked.getClass().getMethod(name, types);
            return method.invoke(asked, arguments);
        } catch (InvocationTargetException thrown) {
            return "throws " + Check.nameOf(thrown.getCause());
        } catch (ReflectiveOperationException none) {
            throw new IllegalStateException(name, none);
        }
    }
}
