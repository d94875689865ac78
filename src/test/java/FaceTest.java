import java.io.IOException;
import java.lang.reflect.Constructor;
import java.lang.reflect.Field;
import java.lang.reflect.Method;
import java.lang.reflect.Modifier;
import java.nio.charset.StandardCharsets;
import java.nio.file.Files;
import java.nio.file.Path;
import java.util.TreeSet;
import java.util.regex.Matcher;
import java.util.regex.Pattern;

/** The class has the document's face and no other, and keeps to LANGUAGE.md as far as a text tells. */
public final class FaceTest {
    private static final Path SHARED = Path.of("../shared/DOC.md");
    private static final Path PROGRAM = Path.of("src/main/java/ColdFrame.java");
    private static final Pattern DECLARED =
            Pattern.compile("public (int|boolean|long|double) (\\w+)\\(([^)]*)\\)");
    private static final String[] RULED_OUT = {
        "->", "::", "\\bfinally\\b", "\\bsynchronized\\b", "\\bassert\\b", "\\w+Exact\\b", "\\bcatch\\b",
        "\\btry\\b", "\\bRandom\\b", "\\bSystem\\.(?!arraycopy\\b)", "\\bThread\\b", "\\bObject\\b",
        "\\bequals\\(", "\\bhashCode\\b", "\\btoString\\b", "\\bpackage\\b", "\\bprotected\\b",
        "^import (?!java\\.util\\.ArrayList;)", "\\bvar\\b", "Math\\.(?!min\\b|max\\b|abs\\b)", "[^\\x01-\\x7f]",
    };

    private final Check check = new Check();

    public static void main(String[] args) throws IOException {
        FaceTest test = new FaceTest();
        test.face();
        test.insides();
        test.words();
        test.lengths();
        test.check.end("FaceTest");
    }

    private void face() throws IOException {
        TreeSet<String> due = new TreeSet<>();
        Matcher matcher = DECLARED.matcher(Files.readString(SHARED));
        while (matcher.find()) {
            String types = matcher.group(3).replaceAll(" \\w+(?=,|$)", "");
            due.add(matcher.group(1) + " " + matcher.group(2) + "(" + types + ")");
        }
        TreeSet<String> there = new TreeSet<>();
        TreeSet<String> hidden = new TreeSet<>();
        for (Method method : ColdFrame.class.getDeclaredMethods()) {
            if (Modifier.isPrivate(method.getModifiers())) {
                hidden.add(method.getName());
            } else {
                check.due(method + " is public", Modifier.toString(method.getModifiers()), "public");
                there.add(signature(method));
            }
        }
        check.due("methods in the document", due.size(), 52);
        check.due("the face", there, due);
        for (Method method : ColdFrame.class.getMethods()) {
            check.due("a private " + method.getName(), hidden.contains(method.getName()), false);
        }
        for (Constructor<?> constructor : ColdFrame.class.getDeclaredConstructors()) {
            check.due("constructor", constructor.toString(), "public ColdFrame()");
        }
        check.due("class", Modifier.toString(ColdFrame.class.getModifiers()), "public final");
    }

    private static String signature(Method method) {
        StringBuilder types = new StringBuilder();
        for (Class<?> type : method.getParameterTypes()) {
            types.append(types.length() == 0 ? "" : ", ").append(type.getName());
        }
        return method.getReturnType().getName() + " " + method.getName() + "(" + types + ")";
    }

    private void insides() {
        check.due("classes at most 12", ColdFrame.class.getDeclaredClasses().length < 12, true);
        for (Field field : ColdFrame.class.getDeclaredFields()) {
            check.due(field + " is private", Modifier.isPrivate(field.getModifiers()), true);
        }
        for (Class<?> inside : ColdFrame.class.getDeclaredClasses()) {
            check.due(inside + " is static", Modifier.isStatic(inside.getModifiers()), true);
            check.due(inside + " is not public", Modifier.isPublic(inside.getModifiers()), false);
            check.due(inside + " has few fields", inside.getDeclaredFields().length <= 20, true);
            for (Field field : inside.getDeclaredFields()) {
                boolean isChanging = Modifier.isStatic(field.getModifiers())
                        && !Modifier.isFinal(field.getModifiers());
                check.due(field + " is no static state", isChanging, false);
            }
            for (Method method : inside.getDeclaredMethods()) {
                check.due(method + " has few parameters", method.getParameterCount() <= 7, true);
            }
        }
    }

    private void words() throws IOException {
        String program = Files.readString(PROGRAM, StandardCharsets.ISO_8859_1)
                .replaceAll("(?s)/\\*.*?\\*/", "").replaceAll("//[^\n]*", "");
        for (String ruledOut : RULED_OUT) {
            Matcher matcher = Pattern.compile(ruledOut, Pattern.MULTILINE).matcher(program);
            check.due("a word that is ruled out: " + ruledOut, matcher.find(), false);
        }
    }

    /** A method ends where the brace stands that closes what its first line opens. */
    private void lengths() throws IOException {
        Pattern head = Pattern.compile("^( {4}| {8})(?! )(?!.*\\b(class|switch)\\b).*\\{$");
        int start = -1;
        String end = "";
        int line = 0;
        for (String text : Files.readAllLines(PROGRAM)) {
            line++;
            Matcher matcher = head.matcher(text);
            if (start < 0 && matcher.matches()) {
                start = line;
                end = matcher.group(1) + "}";
            } else if (start >= 0 && text.equals(end)) {
                check.due("method at line " + start + " is short", line - start < 60, true);
                start = -1;
            }
        }
    }
}
