import java.io.IOException;
import java.lang.reflect.Constructor;
import java.lang.reflect.Field;
import java.lang.reflect.Member;
import java.lang.reflect.Method;
import java.lang.reflect.Modifier;
import java.nio.charset.StandardCharsets;
import java.nio.file.Files;
import java.nio.file.Path;
import java.util.ArrayList;
import java.util.List;
import java.util.Set;
import java.util.TreeSet;
import java.util.stream.Stream;

/** The face as the document has it, and those rules of LANGUAGE.md that can be looked up in the file. */
public final class LanguageTest {
    private static final Check CHECK = new Check("LanguageTest");
    private static final Path FILE = Path.of("src/main/java/DoubtTime.java");

    public static void main(String[] args) throws Exception {
        methods();
        constants();
        constructor();
        names();
        file();
        rules();
        rulesAreSeen();
        CHECK.end();
    }

    private static void methods() throws IOException {
        TreeSet<String> methods = new TreeSet<>();
        for (Method method : DoubtTime.class.getDeclaredMethods()) {
            if (isSeen(method)) {
                methods.add(signature(method));
                CHECK.isTrue(method + " is public, and no more", method.getModifiers() == Modifier.PUBLIC);
            }
        }
        TreeSet<String> face = new TreeSet<>();
        for (String method : Document.faceMethods()) {
            face.add(method.replaceAll(" \\w+(?=[,)])", "").replace(", ", ","));
        }
        CHECK.isTrue("the methods of the document: " + methods + ", not " + face, methods.equals(face));
        CHECK.isTrue("methods were found: " + face.size(), face.size() == 25);
    }

    private static boolean isSeen(Member member) {
        return !Modifier.isPrivate(member.getModifiers()) && !member.isSynthetic();
    }

    private static String signature(Method method) {
        StringBuilder out = new StringBuilder(method.getReturnType() + " " + method.getName() + "(");
        for (Class<?> parameter : method.getParameterTypes()) {
            out.append(out.charAt(out.length() - 1) == '(' ? "" : ",").append(parameter);
        }
        return out.append(")").toString();
    }

    private static void constants() throws Exception {
        TreeSet<String> constants = new TreeSet<>();
        for (Field field : DoubtTime.class.getDeclaredFields()) {
            if (isSeen(field)) {
                CHECK.isTrue(field + " is a constant", field.toString().startsWith("public static final int "));
                constants.add(field.getName() + " = " + field.getInt(null));
            }
        }
        TreeSet<String> face = new TreeSet<>(Document.faceConstants());
        CHECK.isTrue("the constants of the document: " + constants + ", not " + face, constants.equals(face));
        CHECK.isTrue("constants were found: " + face.size(), face.size() == 4);
    }

    private static void constructor() {
        Class<?> type = DoubtTime.class;
        CHECK.isTrue("public and final", type.getModifiers() == (Modifier.PUBLIC | Modifier.FINAL));
        Constructor<?>[] constructors = type.getDeclaredConstructors();
        CHECK.isTrue("one constructor", constructors.length == 1 && constructors[0].getParameterCount() == 0
            && Modifier.isPublic(constructors[0].getModifiers()));
    }

    /** No method but those of the face bears a name of the face, in the classes inside, too. */
    private static void names() throws IOException {
        Set<String> face = new TreeSet<>();
        for (String method : Document.faceMethods()) {
            face.add(method.replaceAll("^\\w+ (\\w+)\\(.*", "$1"));
        }
        List<Class<?>> all = new ArrayList<>(List.of(DoubtTime.class.getDeclaredClasses()));
        all.add(DoubtTime.class);
        for (Class<?> type : all) {
            for (Method method : type.getDeclaredMethods()) {
                boolean isOfFace = type == DoubtTime.class && isSeen(method);
                CHECK.isTrue(method + " bears no name of the face", isOfFace || !face.contains(method.getName()));
            }
        }
    }

    private static void file() throws IOException {
        String text = Files.readString(FILE, StandardCharsets.ISO_8859_1);
        CHECK.isTrue("signs of ASCII alone", text.chars().allMatch(sign -> sign == '\n' || sign >= 32 && sign <= 126));
        try (Stream<Path> paths = Files.walk(Path.of("src/main"))) {
            CHECK.isTrue("one file", paths.filter(Files::isRegularFile).count() == 1);
        }
    }

    private static void rules() throws IOException {
        for (String found : LanguageScan.of(FILE)) {
            CHECK.isTrue(found, false);
        }
    }

    /** What is put into the class to break a rule, and the rule: the scan sees it. */
    private static void rulesAreSeen() throws IOException {
        String[][] breaks = {
            {"private class Inner { }", "2"}, {"private Runnable a() { return () -> { }; }", "2"},
            {"private Object b() { return new Object() { }; }", "2"}, {"private double c = 0;", "3"},
            {"private long[][][] d = null;", "3"}, {"private State[][] e = null;", "3"},
            {"private java.util.HashMap<String, String> f = null;", "3"},
            {"private long g() { return System.nanoTime(); }", "4"},
            {"private int h() { return Math.addExact(1, 2); }", "4"}, {"private static int i = 0;", "5"},
            {"private static final State J = null;", "5"}, {"static { }", "5"},
            {"private void k() { throw new IllegalStateException(); }", "6"},
            {"private int l() { try { return 1; } finally { } }", "6"}, {"private void m() { assert 1 > 0; }", "6"},
            {"private void n() { synchronized (this) { } }", "6"},
            {"private boolean o(String a, String b) { return a == b; }", "6"}, {"public String toString() { return null; }", "6"},
            {"private void p() { while (true) { } }", "9"}, {"private void q() { for (;;) { } }", "9"},
            {"private String r(int n) { return \"n\" + n; }", "10"},
            {"private int s(int a, int b, int c, int d, int e, int f, int g, int h) { return 0; }", "11"},
            {"private int t() { return t(); }", "11"}, {"private int u() {" + "\n".repeat(60) + "return 0; }", "11"},
            {"private String v = \"\\u00e9\";", "4"}};
        String text = Files.readString(FILE, StandardCharsets.US_ASCII);
        Path folder = Files.createTempDirectory("language");
        Path broken = folder.resolve("DoubtTime.java");
        for (String[] one : breaks) {
            Files.writeString(broken, text.replaceFirst("\n}\\s*$", "\n" + one[0].replace("\\", "\\\\") + "\n}\n"));
            List<String> found = LanguageScan.of(broken);
            CHECK.isTrue("rule " + one[1] + " is seen broken by " + one[0].trim() + ", but " + found,
                found.stream().anyMatch(what -> what.startsWith("rule " + one[1] + ",")));
        }
        Files.delete(broken);
        Files.delete(folder);
    }
}
