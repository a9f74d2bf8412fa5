import java.lang.reflect.Constructor;
import java.lang.reflect.Field;
import java.lang.reflect.Member;
import java.lang.reflect.Method;
import java.lang.reflect.Modifier;
import java.nio.charset.StandardCharsets;
import java.nio.file.Files;
import java.nio.file.Path;
import java.util.ArrayList;
import java.util.Arrays;
import java.util.List;
import java.util.TreeSet;
import java.util.regex.Matcher;
import java.util.regex.Pattern;

/** The document's face, and those rules of LANGUAGE.md that can be looked up in the file. */
public final class LanguageTest {
    private static final Check CHECK = new Check("LanguageTest");
    private static final String FILE = "src/main/java/DoubtTime.java";
    private static final String[] FACE = {
        "int write(int)", "int wipe()", "int fault()", "int lay()", "int tell(int,long,long)",
        "int strike(int,int)", "int strikeLiars()", "int drift(int)", "int go(int)", "int undo()",
        "long span(int,int)", "long agreed(int)", "int good()", "int in(long)", "int liars()",
        "int commit(int,int)", "long commitOf(int,int)", "int waiting(int)", "long safe()",
        "int read(int,long)", "int between(int,long,long)", "long leap(int)", "long smeared(long)",
        "long back(long)", "int count(int)"};

    public static void main(String[] args) throws Exception {
        face();
        ownClasses();
        fields();
        words();
        lengths();
        CHECK.end();
    }

    private static void face() {
        Class<?> type = DoubtTime.class;
        CHECK.isTrue("public and final", Modifier.isPublic(type.getModifiers()) && Modifier.isFinal(type.getModifiers()));
        TreeSet<String> methods = new TreeSet<>();
        for (Method method : type.getDeclaredMethods()) {
            if (isFace(method)) {
                methods.add(signature(method));
            }
        }
        CHECK.isTrue("the methods of the document: " + methods, methods.equals(new TreeSet<>(Arrays.asList(FACE))));
        TreeSet<String> fields = new TreeSet<>();
        for (Field field : type.getDeclaredFields()) {
            if (isFace(field)) {
                fields.add(field.getName());
            }
        }
        CHECK.isTrue("the constants: " + fields, fields.equals(new TreeSet<>(List.of("BAD", "NO", "FULL", "NONE"))));
        Constructor<?>[] constructors = type.getDeclaredConstructors();
        CHECK.isTrue("one constructor", constructors.length == 1 && constructors[0].getParameterCount() == 0
            && Modifier.isPublic(constructors[0].getModifiers()));
    }

    private static boolean isFace(Member member) {
        return !Modifier.isPrivate(member.getModifiers()) && !member.isSynthetic();
    }

    private static String signature(Method method) {
        StringBuilder out = new StringBuilder(method.getReturnType() + " " + method.getName() + "(");
        for (Class<?> parameter : method.getParameterTypes()) {
            out.append(out.charAt(out.length() - 1) == '(' ? "" : ",").append(parameter);
        }
        return out.append(")").toString();
    }

    private static void ownClasses() {
        Class<?>[] own = DoubtTime.class.getDeclaredClasses();
        CHECK.isTrue("at most twelve classes", own.length + 1 <= 12);
        for (Class<?> type : own) {
            CHECK.isTrue(type + " is static", Modifier.isStatic(type.getModifiers()));
            CHECK.isTrue(type + " is not public", !Modifier.isPublic(type.getModifiers()));
            for (Method method : type.getDeclaredMethods()) {
                CHECK.isTrue(method + " bears no name of the face", Arrays.stream(FACE)
                    .noneMatch(f -> f.contains(" " + method.getName() + "(")));
                CHECK.isTrue(method + " has seven parameters at most", method.getParameterCount() <= 7);
            }
        }
        for (Method method : DoubtTime.class.getDeclaredMethods()) {
            if (!isFace(method)) {
                CHECK.isTrue(method + " bears no name of the face", Arrays.stream(FACE)
                    .noneMatch(f -> f.contains(" " + method.getName() + "(")));
            }
        }
    }

    private static void fields() {
        List<Class<?>> all = new ArrayList<>(List.of(DoubtTime.class.getDeclaredClasses()));
        all.add(DoubtTime.class);
        for (Class<?> type : all) {
            int ofObjects = 0;
            for (Field field : type.getDeclaredFields()) {
                boolean isStatic = Modifier.isStatic(field.getModifiers());
                CHECK.isTrue(field + " is final, if static", !isStatic || Modifier.isFinal(field.getModifiers()));
                ofObjects += isStatic ? 0 : 1;
            }
            CHECK.isTrue(type + " has twenty fields at most", ofObjects <= 20);
        }
    }

    private static String code() throws Exception {
        String text = Files.readString(Path.of(FILE), StandardCharsets.US_ASCII);
        return text.replaceAll("(?s)/\\*.*?\\*/", "").replaceAll("//[^\n]*", "").replaceAll("\"[^\"\n]*\"", "\"\"");
    }

    private static void words() throws Exception {
        String code = code();
        String[] ruledOut = {"throw", "throws", "try", "catch", "synchronized", "assert", "import", "package",
            "volatile", "\\w*Exact", "Long\\.[A-Z_]+", "Integer\\.[A-Z_]+",
            "System\\.(?!arraycopy)\\w+", "Random", "Thread", "Object", "hashCode", "toString",
            "var", "transient", "native", "double", "float"};
        for (String word : ruledOut) {
            Matcher found = Pattern.compile("\\b" + word + "\\b").matcher(code);
            CHECK.isTrue("no word " + word, !found.find());
        }
        CHECK.isTrue("no lambda", !code.contains("->"));
        CHECK.isTrue("no method reference", !code.contains("::"));
    }

    /** Methods stay under sixty lines: counted from a line that opens one to the brace of its depth. */
    private static void lengths() throws Exception {
        String[] lines = code().split("\n");
        Pattern opens = Pattern.compile("^( {4}| {8})(?:\\w[\\w\\[\\]]* )+\\w+\\([^;]*\\) \\{$");
        int methods = 0;
        for (int i = 0; i < lines.length; i++) {
            Matcher method = opens.matcher(lines[i]);
            if (method.find() && !lines[i].trim().startsWith("if") && !lines[i].trim().startsWith("for")) {
                methods++;
                int end = i;
                while (end < lines.length && !lines[end].equals(method.group(1) + "}")) {
                    end++;
                }
                CHECK.isTrue("sixty lines at most: " + lines[i].trim(), end - i + 1 <= 60);
            }
        }
        CHECK.isTrue("methods were found: " + methods, methods >= FACE.length);
    }
}
