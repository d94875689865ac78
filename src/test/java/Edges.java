import java.lang.reflect.InvocationTargetException;
import java.lang.reflect.Method;
import java.util.List;
import java.util.stream.Stream;

/**
 * What the tests of edges share. Each of their methods that is marked with words of the document is
 * a test of these: at the boundary that they name, just inside it and just outside it.
 */
abstract class Edges extends Scene {
    static final int TERMS = Document.TERMS;

    /** Makes the same object again and again. */
    interface Maker {
        ColdFrame make();
    }

    /** A call of an object. */
    interface Asked {
        Object of(ColdFrame x);
    }

    /** A call of an object with one argument that matters. */
    interface AskedWith {
        Object of(ColdFrame x, int argument);
    }

    private Check check;
    private Document document;
    private String at;

    void runAll(Check newCheck, Document newDocument) {
        check = newCheck;
        document = newDocument;
        Stream.of(getClass().getDeclaredMethods()).filter(m -> m.isAnnotationPresent(Told.class))
                .sorted((a, b) -> a.getName().compareTo(b.getName())).forEach(this::run);
    }

    private void run(Method test) {
        Told told = test.getAnnotation(Told.class);
        at = "'" + told.words() + "' of " + told.promise() + ", " + test.getName() + ": ";
        due("stands in the document, once", document.tell(told.promise(), told.words()), true);
        int before = check.count();
        try {
            test.invoke(this);
        } catch (InvocationTargetException thrown) {
            due("thrown in the test", String.valueOf(thrown.getCause()), "nothing");
        } catch (IllegalAccessException hidden) {
            throw new IllegalStateException(hidden);
        }
        due("has checks", check.count() > before, true);
    }

    void due(String what, Object got, Object want) {
        check.due(at + what, got, want);
    }

    /** The object must go on just like one that never got the call; none is called more than 512 times. */
    void refused(String what, Class<? extends Exception> want, Maker maker, Asked call) {
        ColdFrame asked = maker.make();
        check.thrown(at + what, want, () -> call.of(asked));
        check.same(at + what + ", the answers behind it", Answers.of(asked), Answers.of(maker.make()));
        ColdFrame spent = maker.make();
        check.thrown(at + what + ", once more", want, () -> call.of(spent));
        check.same(at + what + ", what comes then", Answers.lastOf(spent), Answers.lastOf(maker.make()));
    }

    /** Where what is answered behind it is free. */
    void thrown(String what, Class<? extends Exception> want, ColdFrame x, Asked call) {
        check.thrown(at + what, want, () -> call.of(x));
    }

    void answered(String what, Maker maker, Asked call) {
        String answer = Check.answerOf(() -> call.of(maker.make()));
        due(what + " " + answer, answer.startsWith("throws"), false);
    }

    /** Answered at both ends, refused one behind each, and far behind. */
    void onlyFrom(int least, int greatest, Class<? extends Exception> want, Maker maker, AskedWith call) {
        for (int argument : new int[] {least, greatest}) {
            answered("with " + argument, maker, x -> call.of(x, argument));
        }
        for (int argument : new int[] {least - 1, greatest + 1, MIN, MAX}) {
            refused("with " + argument, want, maker, x -> call.of(x, argument));
        }
    }

    /** As there is none, not even 0 is answered. */
    void none(Class<? extends Exception> want, Maker maker, AskedWith call) {
        for (int argument : new int[] {0, -1, 1}) {
            refused("with " + argument + ", where there is none", want, maker, x -> call.of(x, argument));
        }
    }
}
