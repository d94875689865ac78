import java.util.List;

/** Counts what is as due and what is not, and tells the latter. */
final class Check {
    private int right;
    private int wrong;

    /** A call that may throw. */
    interface Call {
        Object answer() throws Exception;
    }

    void due(String what, Object got, Object want) {
        if (want.equals(got)) {
            right++;
        } else {
            wrong++;
            System.out.println(what + ": answered " + got + ", due is " + want);
        }
    }

    /** Tells the first line that is another one, as all of them would be too many to read. */
    void same(String what, List<String> got, List<String> want) {
        int line = 0;
        while (line < got.size() && line < want.size() && got.get(line).equals(want.get(line))) {
            line++;
        }
        due(what, line < got.size() ? got.get(line) : "the end", line < want.size() ? want.get(line) : "the end");
    }

    /** The call must throw just this class, not one below it, and leave all answers as they were. */
    void refused(String what, ColdFrame frame, Class<? extends Exception> want, Call call) {
        List<String> before = Answers.of(frame);
        thrown(what, want, call);
        same(what + ", the answers behind it", Answers.of(frame), before);
    }

    void thrown(String what, Class<? extends Exception> want, Call call) {
        due(what, answerOf(call), "throws " + want.getName());
    }

    int count() {
        return right + wrong;
    }

    static String answerOf(Call call) {
        try {
            return String.valueOf(call.answer());
        } catch (Exception thrown) {
            return "throws " + nameOf(thrown);
        }
    }

    /** Only what the program itself throws counts, not what a list of the library throws in it. */
    static String nameOf(Throwable thrown) {
        StackTraceElement[] calls = thrown.getStackTrace();
        String thrower = calls.length == 0 ? "" : calls[0].getClassName();
        boolean isOwn = thrower.startsWith("ColdFrame") || thrower.startsWith("Model");
        return thrown.getClass().getName() + (isOwn ? "" : " of " + thrower);
    }

    void end(String name) {
        System.out.println(name + ": " + right + " checks as due, " + wrong + " not");
        if (wrong != 0 || right == 0) {
            System.exit(1);
        }
    }
}
