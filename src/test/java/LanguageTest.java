import java.lang.reflect.Constructor;
import java.lang.reflect.Field;
import java.lang.reflect.Method;
import java.lang.reflect.Modifier;
import java.nio.charset.StandardCharsets;
import java.nio.file.Files;
import java.nio.file.Path;
import java.util.ArrayList;
import java.util.Collections;
import java.util.List;
import java.util.TreeSet;
import java.util.regex.Matcher;
import java.util.regex.Pattern;

// The public face of the document, and those rules of LANGUAGE.md that can be seen from outside.
public final class LanguageTest {
    private static final Path SOURCE = Path.of("src/main/java/JudgedDeposits.java");
    private static final Path DOCUMENT = Path.of("../shared/DOC.md");
    private static int wrong = 0;

    private static void hold(String what, boolean so) {
        if (!so) {
            wrong++;
            System.out.println("not so: " + what);
        }
    }

    private static void face() throws Exception {
        List<String> want = new ArrayList<>();
        Matcher m = Pattern.compile("^    public (int|long) (\\w+)\\(([^)]*)\\);", Pattern.MULTILINE).matcher(Files.readString(DOCUMENT));
        while (m.find()) want.add(m.group(1) + " " + m.group(2) + " " + (m.group(3).isEmpty() ? 0 : m.group(3).split(",").length));
        List<String> got = new ArrayList<>();
        TreeSet<String> open = new TreeSet<>();
        for (Method f : JudgedDeposits.class.getDeclaredMethods()) {
            if (Modifier.isPrivate(f.getModifiers()) || f.isSynthetic()) continue;
            hold("public: " + f, Modifier.isPublic(f.getModifiers()) && !Modifier.isStatic(f.getModifiers()));
            for (Class<?> p : f.getParameterTypes()) hold("takes ints: " + f, p == int.class);
            got.add(f.getReturnType() + " " + f.getName() + " " + f.getParameterCount());
            open.add(f.getName());
        }
        Collections.sort(want);
        Collections.sort(got);
        hold("rule 1: the face of the document " + want + " is " + got, want.size() == 40 && want.equals(got));
        hold("rule 1: final", Modifier.isFinal(JudgedDeposits.class.getModifiers()));
        Constructor<?>[] made = JudgedDeposits.class.getDeclaredConstructors();
        hold("rule 1: one public constructor", made.length == 1 && made[0].getParameterCount() == 0 && Modifier.isPublic(made[0].getModifiers()));
        for (Field f : JudgedDeposits.class.getDeclaredFields()) hold("rule 1: private: " + f, Modifier.isPrivate(f.getModifiers()));
        for (Method f : JudgedDeposits.class.getDeclaredMethods()) {
            hold("rule 1: a name of its own: " + f, !Modifier.isPrivate(f.getModifiers()) || !open.contains(f.getName()));
        }
        for (Class<?> c : JudgedDeposits.class.getDeclaredClasses()) {
            hold("rule 2: static: " + c, Modifier.isStatic(c.getModifiers()));
            for (Method f : c.getDeclaredMethods()) hold("rule 11: parameters: " + f, f.getParameterCount() <= 7);
            statics(c);
        }
        statics(JudgedDeposits.class);
    }

    private static void statics(Class<?> c) {
        int own = 0;
        for (Field f : c.getDeclaredFields()) {
            if (Modifier.isStatic(f.getModifiers())) {
                hold("rule 5: final: " + f, Modifier.isFinal(f.getModifiers()));
                hold("rule 5: a type for constants: " + f, List.of("int", "long", "boolean", "char", "String", "int[]", "long[]", "char[]", "byte[]")
                    .contains(f.getType().getSimpleName()));
            } else {
                own++;
            }
        }
        hold("rule 11: fields of " + c, own <= 20);
    }

    private static String bare(String source) {
        return source.replaceAll("(?s)/\\*.*?\\*/", " ").replaceAll("//[^\n]*", " ").replaceAll("\"(\\\\.|[^\"\\\\])*\"", "\"\"")
            .replaceAll("'(\\\\.|[^'\\\\])'", "' '");
    }

    private static void text() throws Exception {
        String source = Files.readString(SOURCE, StandardCharsets.US_ASCII);
        String code = bare(source);
        for (String word : List.of("throw", "throws", "try", "catch", "finally", "synchronized", "assert", "package", "var", "volatile", "native")) {
            hold("rule 6: no " + word, !Pattern.compile("\\b" + word + "\\b").matcher(code).find());
        }
        hold("rule 2: no lambda, no method reference", !code.contains("->") && !code.contains("::"));
        hold("rule 5: no static initialiser", !Pattern.compile("static\\s*\\{").matcher(code).find());
        Matcher imports = Pattern.compile("import ([^;]+);").matcher(code);
        while (imports.find()) {
            hold("rule 4: " + imports.group(1), List.of("java.util.ArrayList", "java.util.List", "java.util.Arrays", "java.util.Iterator").contains(imports.group(1)));
        }
        Matcher library = Pattern.compile("\\b(Arrays|Math|Integer|Long|System)\\.(\\w+)").matcher(code);
        while (library.find()) {
            hold("rule 4: " + library.group(), List.of("Arrays.fill", "Math.min", "Math.max", "Integer.bitCount", "System.arraycopy").contains(library.group()));
        }
        lengths(code);
    }

    private static void lengths(String code) {
        int begin = -1;
        String[] lines = code.split("\n");
        for (int i = 0; i < lines.length; i++) {
            if (lines[i].matches("( {4}| {8})[\\w<\\[].*\\) \\{")) begin = i;
            if (begin >= 0 && lines[i].matches("( {4}| {8})\\}")) {
                hold("rule 11: short: " + lines[begin].trim(), i - begin <= 60);
                begin = -1;
            }
        }
    }

    public static void main(String[] args) throws Exception {
        face();
        text();
        System.out.println(wrong == 0 ? "the rules are kept" : wrong + " are not so");
        if (wrong != 0) System.exit(1);
    }
}
