import java.lang.reflect.Constructor;
import java.lang.reflect.Field;
import java.lang.reflect.Method;
import java.lang.reflect.Modifier;
import java.nio.charset.StandardCharsets;
import java.nio.file.Files;
import java.nio.file.Path;
import java.util.Arrays;
import java.util.Set;
import java.util.TreeSet;
import java.util.regex.Matcher;
import java.util.regex.Pattern;

/** The face of the document, and those rules of LANGUAGE.md that can be seen without reading the program. */
public final class LanguageTest {
    private static final String DIARY = "class NightDiary";
    private static final String INDEX = " throws IndexOutOfBoundsException";
    private static final String ARGUMENT = " throws IllegalArgumentException";
    private static final String STATE = " throws IllegalStateException";
    private static final String[] FACE = {
        "int piece(int,int)" + ARGUMENT + ",IllegalStateException",
        "int paste(int)" + INDEX + ",IllegalArgumentException",
        "int cut(int)" + INDEX + ",IllegalStateException",
        "int correct(int,int)" + INDEX,
        "int join(int,int)" + INDEX + ",IllegalStateException",
        "int part(int)" + INDEX + ",IllegalStateException",
        "int joinClear()",
        "int append(int)" + ARGUMENT + ",IllegalStateException",
        "int clearBuffer()",
        "int firstError()",
        "int undo()" + STATE,
        "int pieceOf(int,int)" + INDEX + ",IllegalArgumentException",
        "int receipt(int,int,int)" + INDEX + ",IllegalArgumentException",
        "int page(int,int)" + ARGUMENT,
        "int line(int,int,int)" + ARGUMENT,
        "int sum(int,int)" + ARGUMENT,
        "int count(int)" + ARGUMENT,
        "int fits(int,int)" + INDEX,
        "int longest(int)" + ARGUMENT,
        "int hidden()",
        "int suspect()",
        "double rightShare()",
        "long digest()"};

    /** What no line of the program may hold, by the number of the rule. */
    private static final String[][] BARRED = {
        {"2", "->|::"},
        {"4", "\\bimport (?!java\\.util\\.Arrays;)|ofNullable|\\bSystem\\.(?!arraycopy)|\\bArrays\\.(?!fill\\b)"},
        {"4", "\\bMath\\.(?!min\\b|max\\b|abs\\b)|\\bInteger\\.(?!bitCount\\b)|\\b(Double|Float|Character|Boolean)\\b"},
        {"5", "static \\{|static final (double|float)"},
        {"6", "\\b(try|catch|finally|synchronized|assert|instanceof)\\b"},
        {"12", "\\bnew (?!int\\[|Ill|Ind|Book\\(\\);|Buffer\\(\\);|Reader\\(\\);|Lines\\(\\);|LongestRow\\(\\);)"}};

    private static int passed = 0;
    private static int failed = 0;

    private LanguageTest() {
    }

    private static void check(String what, boolean well) {
        if (well) {
            passed++;
        } else {
            failed++;
            System.out.println("not as due: " + what);
        }
    }

    public static void main(String[] args) throws Exception {
        face();
        Class<?>[] inner = NightDiary.class.getDeclaredClasses();
        check("at most twelve classes", inner.length + 1 <= 12);
        for (Class<?> one : inner) {
            check("rule 1, private and static: " + one, Modifier.isStatic(one.getModifiers())
                    && Modifier.isPrivate(one.getModifiers()));
            check("rule 11, fields of " + one, fieldsOf(one) <= 20);
        }
        check("rule 11, fields of " + DIARY, fieldsOf(NightDiary.class) <= 20);
        String source = Files.readString(Path.of(args[0]), StandardCharsets.US_ASCII);
        String code = source.replaceAll("(?s)/\\*.*?\\*/", "").replaceAll("//[^\n]*", "");
        for (String[] barred : BARRED) {
            Matcher matcher = Pattern.compile(barred[1]).matcher(code);
            check("rule " + barred[0], !matcher.find());
        }
        methods(code);
        System.out.println(passed + " passed, " + failed + " failed");
        if (failed != 0) {
            System.exit(1);
        }
    }

    private static long fieldsOf(Class<?> one) {
        return Arrays.stream(one.getDeclaredFields()).filter(field -> !Modifier.isStatic(field.getModifiers())).count();
    }

    private static void face() throws NoSuchFieldException {
        int modifiers = NightDiary.class.getModifiers();
        check(DIARY + " is public and final", Modifier.isPublic(modifiers) && Modifier.isFinal(modifiers));
        check("its package", NightDiary.class.getPackageName().isEmpty());
        Set<String> methods = new TreeSet<>();
        Set<String> names = new TreeSet<>();
        Set<String> hidden = new TreeSet<>();
        for (Method method : NightDiary.class.getDeclaredMethods()) {
            if (Modifier.isPrivate(method.getModifiers())) {
                hidden.add(method.getName());
            } else {
                check("public and no more: " + method, method.getModifiers() == Modifier.PUBLIC);
                methods.add(told(method));
                names.add(method.getName());
            }
        }
        check("the methods " + methods, methods.equals(new TreeSet<>(Arrays.asList(FACE))));
        hidden.retainAll(names);
        check("private methods with public names " + hidden, hidden.isEmpty());
        Constructor<?>[] constructors = NightDiary.class.getDeclaredConstructors();
        check("one constructor", constructors.length == 1 && constructors[0].getParameterCount() == 0
                && Modifier.isPublic(constructors[0].getModifiers())
                && constructors[0].getExceptionTypes().length == 0);
        for (Field field : NightDiary.class.getDeclaredFields()) {
            check("private: " + field, Modifier.isPrivate(field.getModifiers()) || field.getName().equals("NONE"));
        }
        check("NONE", NightDiary.class.getField("NONE").getModifiers()
                == (Modifier.PUBLIC | Modifier.STATIC | Modifier.FINAL));
    }

    private static String told(Method method) {
        StringBuilder told = new StringBuilder();
        told.append(method.getReturnType()).append(' ').append(method.getName()).append('(');
        told.append(String.join(",", Arrays.stream(method.getParameterTypes()).map(Class::getSimpleName).toList()));
        told.append(')');
        if (method.getExceptionTypes().length > 0) {
            told.append(" throws ");
            told.append(String.join(",", Arrays.stream(method.getExceptionTypes()).map(Class::getSimpleName).toList()));
        }
        return told.toString();
    }

    private static void methods(String code) {
        String[] lines = code.split("\n");
        int start = -1;
        int found = 0;
        for (int index = 0; index < lines.length; index++) {
            // A method's first line is indented by four or eight, its last one is a brace as far in.
            String line = lines[index];
            if (line.matches(" {4}( {4})?[a-z][a-zA-Z\\[\\] ]* [a-zA-Z]+\\(.*") && !line.contains("=")
                    && !line.contains(";") && !line.matches(" *(return|throw|if|for|while|switch) .*")) {
                start = index;
            } else if (start >= 0 && line.matches(" {4}( {4})?}") && line.indexOf('}') == indent(lines[start])) {
                check("rule 11, length: " + lines[start], index - start < 60);
                start = -1;
                found++;
            }
        }
        check("methods are found", found > 80);
    }

    private static int indent(String line) {
        return line.length() - line.stripLeading().length();
    }
}
