/** Counts what is as due and what is not, and tells the latter. */
final class Check {
    private int right;
    private int wrong;

    /** A call that may throw. */
    interface Call {
        Object answer() throws Exception;
    }

    void due(String what, Object got, Object want) {
        if (want.equals(got)) {
            right++;
        } else {
            wrong++;
            System.out.println(what + ": answered " + got + ", due is " + want);
        }
    }

    /** The call must throw just this class, not one below it, and leave the object as it was. */
    void refused(String what, ColdFrame frame, Class<? extends Exception> want, Call call) {
        long before = frame.digest();
        due(what, thrownBy(call), want.getName());
        due(what + " changed the digest", frame.digest(), before);
    }

    private static String thrownBy(Call call) {
        try {
            return "the answer " + call.answer();
        } catch (Exception thrown) {
            return nameOf(thrown);
        }
    }

    /** Only what the program itself throws counts, not what a list of the library throws in it. */
    static String nameOf(Throwable thrown) {
        StackTraceElement[] calls = thrown.getStackTrace();
        String thrower = calls.length == 0 ? "" : calls[0].getClassName();
        boolean isOwn = thrower.startsWith("ColdFrame") || thrower.startsWith("Model");
        return thrown.getClass().getName() + (isOwn ? "" : " of " + thrower);
    }

    void end(String name) {
        System.out.println(name + ": " + right + " checks as due, " + wrong + " not");
        if (wrong != 0 || right == 0) {
            System.exit(1);
        }
    }
}
