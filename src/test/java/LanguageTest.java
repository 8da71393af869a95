import java.io.IOException;
import java.lang.reflect.Field;
import java.lang.reflect.Member;
import java.lang.reflect.Method;
import java.lang.reflect.Modifier;
import java.nio.file.Files;
import java.nio.file.Path;
import java.util.ArrayList;
import java.util.Arrays;
import java.util.List;
import java.util.Set;
import java.util.TreeSet;
import java.util.regex.Matcher;
import java.util.regex.Pattern;

/** The public face, and the rules of LANGUAGE.md that can be seen without running anything. */
public final class LanguageTest {
    private static final Due due = new Due("LanguageTest");
    private static final Set<String> FACE = Set.of("int table(int)", "int insert(int,long,long,long,long,int)",
            "int fresh()", "int constant(long,boolean)", "int column(int,int)", "int op(int,int,int)",
            "int aggregate(int,int,boolean)", "int source(int,int,int)", "int condition(int,int)", "int group(int)",
            "int item(int)", "int order(int,boolean)", "int shape(boolean,int,int)", "int run()", "long cell(int,int)",
            "boolean isNull(int,int)", "int answer(int)");
    private static final Set<String> CONSTANTS = Set.of("UNKNOWN", "OUTSIDE", "STATE", "ROOM");
    private static final String[] FORBIDDEN = {"throw", "throws", "try", "catch", "synchronized", "assert", "import",
        "package", "volatile", "transient", "native", "hashCode", "toString", "Object", "Exception", "Thread", "Random"};

    public static void main(String[] args) throws IOException {
        face();
        for (Class<?> type : allClasses()) {
            members(type);
        }
        due.is("at most twelve classes", allClasses().size() <= 12, true);
        source(Files.readString(Path.of("src/main/java/QueryRunner.java")));
        due.end();
    }

    private static List<Class<?>> allClasses() {
        List<Class<?>> all = new ArrayList<>(List.of(QueryRunner.class));
        all.addAll(Arrays.asList(QueryRunner.class.getDeclaredClasses()));
        return all;
    }

    private static boolean isHidden(Member member) {
        return Modifier.isPrivate(member.getModifiers()) || member.isSynthetic();
    }

    private static void face() {
        due.is("public and final", QueryRunner.class.getModifiers(), Modifier.PUBLIC | Modifier.FINAL);
        Set<String> methods = new TreeSet<>();
        for (Method method : QueryRunner.class.getDeclaredMethods()) {
            if (!isHidden(method)) {
                due.is(method + " is public alone", method.getModifiers(), Modifier.PUBLIC);
                methods.add(told(method));
            }
        }
        due.is("methods " + methods, methods.equals(FACE), true);
        Set<String> constants = new TreeSet<>();
        for (Field field : QueryRunner.class.getDeclaredFields()) {
            if (!isHidden(field)) {
                due.is(field + " is a constant", field.getModifiers(), Modifier.PUBLIC | Modifier.STATIC | Modifier.FINAL);
                constants.add(field.getName());
            }
        }
        due.is("constants " + constants, constants.equals(CONSTANTS), true);
        due.is("one constructor", QueryRunner.class.getDeclaredConstructors().length, 1);
        due.is("without parameters", QueryRunner.class.getConstructors()[0].getParameterCount(), 0);
    }

    private static String told(Method method) {
        StringBuilder text = new StringBuilder(method.getReturnType().getName() + " " + method.getName() + "(");
        for (Class<?> type : method.getParameterTypes()) {
            text.append(text.charAt(text.length() - 1) == '(' ? "" : ",").append(type.getName());
        }
        return text + ")";
    }

    private static void members(Class<?> type) {
        due.is(type + " is static", type == QueryRunner.class || Modifier.isStatic(type.getModifiers()), true);
        int fields = 0;
        for (Field field : type.getDeclaredFields()) {
            boolean isStatic = Modifier.isStatic(field.getModifiers());
            due.is(field + " is final if static", !isStatic || Modifier.isFinal(field.getModifiers()), true);
            fields += isStatic ? 0 : 1;
        }
        due.is(type + " has at most twenty fields", fields <= 20, true);
        for (Method method : type.getDeclaredMethods()) {
            due.is(method + " has at most seven parameters", method.getParameterCount() <= 7, true);
            boolean isOfFace = FACE.stream().anyMatch(told -> told.contains(" " + method.getName() + "("));
            due.is(method + " bears no public name", isOfFace && isHidden(method), false);
        }
    }

    private static void source(String text) {
        String code = text.replaceAll("(?s)/\\*.*?\\*/", "").replaceAll("//[^\n]*", "").replaceAll("\"[^\"]*\"", "");
        for (String word : FORBIDDEN) {
            due.is("the word " + word, Pattern.compile("\\b" + word + "\\b").matcher(code).find(), false);
        }
        due.is("->", code.contains("->"), false);
        due.is("::", code.contains("::"), false);
        due.is("Exact", code.contains("Exact("), false);
        due.is("plain characters", text.chars().allMatch(c -> c < 128), true);
        Matcher calls = Pattern.compile("\\b(Math|Integer|Long|System|Arrays|String|StringBuilder)\\.(\\w+)").matcher(code);
        while (calls.find()) {
            String call = calls.group(1) + "." + calls.group(2);
            due.is(call, Set.of("Math.min", "Math.max", "Long.compare", "System.arraycopy").contains(call), true);
        }
        methodLengths(code);
    }

    private static void methodLengths(String code) {
        int length = 0;
        boolean isInside = false;
        for (String line : code.split("\n")) {
            if (line.matches("\\s+[\\w\\[\\] ]*\\w+\\(.*\\) \\{") && !line.matches("\\s+(if|for|while|switch|\\}).*")) {
                isInside = true;
                length = 0;
            }
            length++;
            if (isInside && length == 61) {
                due.is("a method of more than sixty lines at: " + line, 0, 1);
            }
        }
    }
}
