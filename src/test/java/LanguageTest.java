import java.io.IOException;
import java.lang.reflect.Field;
import java.lang.reflect.Method;
import java.lang.reflect.Modifier;
import java.nio.file.Files;
import java.nio.file.Path;
import java.util.ArrayList;
import java.util.Arrays;
import java.util.List;
import java.util.Set;
import java.util.TreeSet;
import java.util.regex.Matcher;
import java.util.regex.Pattern;

/** What of ../shared/LANGUAGE.md can be seen by a look at the file and at its classes. */
public final class LanguageTest {
    private static final Set<String> LIBRARY = Set.of("Arrays.fill", "Arrays.copyOf", "System.arraycopy", "Math.max",
        "Math.min", "Math.abs", "Integer.bitCount", "WORDS.length", "WORDS.charAt", "SIGNS.indexOf");
    private static final Set<String> TYPES = Set.of("int", "long", "short", "byte", "char", "boolean", "int[]",
        "long[]", "char[]", "byte[]", "boolean[]", "String");
    private static final Check CHECK = new Check("LanguageTest");

    public static void main(String[] args) throws IOException {
        String source = Files.readString(Path.of("src/main/java/IceSearch.java"));
        String code = source.replaceAll("(?s)/\\*.*?\\*/", "").replaceAll("//[^\n]*", "");
        testWords(code.replaceAll("\"[^\"]*\"", "\"\""));
        testCalls(code);
        testLengths(code);
        testClasses();
        CHECK.end();
    }

    private static void testWords(String code) {
        String[] words = {"throw", "throws", "try", "catch", "finally", "synchronized", "assert", "native", "volatile",
            "double", "float", "Object", "var", "protected", "package", "super"};
        for (String word : words) {
            CHECK.that("no " + word, !Pattern.compile("\\b" + word + "\\b").matcher(code).find());
        }
        for (String sign : new String[] {"->", "::", "@", "\" +", "+ \"", "\"\n"}) {
            CHECK.that("no " + sign, !code.contains(sign));
        }
        Matcher imports = Pattern.compile("import ([^;]*);").matcher(code);
        while (imports.find()) {
            CHECK.due("import of " + imports.group(1), imports.group(1).equals("java.util.Arrays"), true);
        }
        for (char c : code.toCharArray()) {
            CHECK.that("sign " + (int) c, c < 128);
        }
    }

    private static void testCalls(String code) {
        Matcher calls = Pattern.compile("\\b([A-Z][A-Za-z]*\\.[a-z][A-Za-z]*)\\(").matcher(code);
        while (calls.find()) {
            CHECK.that("the library has " + calls.group(1), LIBRARY.contains(calls.group(1)));
        }
    }

    private static void testLengths(String code) {
        Pattern method = Pattern.compile("( {4}| {8})(?!if|for|while|switch|do|else|\\})[a-zA-Z].*\\) \\{");
        String[] lines = code.split("\n", -1);
        int methods = 0;
        for (int i = 0; i < lines.length; i++) {
            Matcher m = method.matcher(lines[i]);
            if (m.matches()) {
                int end = i + 1;
                while (!lines[end].equals(m.group(1) + "}")) {
                    end++;
                }
                methods++;
                CHECK.that("the method in line " + (i + 1) + " is short", end - i < 60);
            }
        }
        CHECK.that("the methods were seen: " + methods, methods > 130);
    }

    private static void testClasses() {
        List<Class<?>> all = new ArrayList<>(List.of(IceSearch.class));
        all.addAll(Arrays.asList(IceSearch.class.getDeclaredClasses()));
        CHECK.that("twelve classes at most", all.size() <= 12);
        Set<String> face = new TreeSet<>();
        for (Method method : IceSearch.class.getMethods()) {
            face.add(method.getName());
        }
        Set<String> own = new TreeSet<>(TYPES);
        for (Class<?> one : all) {
            own.add(one.getSimpleName());
            own.add(one.getSimpleName() + "[]");
        }
        for (Class<?> one : all) {
            testClass(one, face, own);
        }
    }

    private static void testClass(Class<?> one, Set<String> face, Set<String> types) {
        int fields = 0;
        for (Field field : one.getDeclaredFields()) {
            boolean constant = Modifier.isStatic(field.getModifiers());
            fields += constant ? 0 : 1;
            CHECK.that(field + " is final", !constant || Modifier.isFinal(field.getModifiers()));
            CHECK.that(field + " has a type of the language", types.contains(field.getType().getSimpleName()));
        }
        CHECK.that(one + " has twenty fields at most", fields <= 20);
        for (Method method : one.getDeclaredMethods()) {
            CHECK.that(method + " has seven parameters at most", method.getParameterCount() <= 7);
            boolean isFace = one == IceSearch.class && Modifier.isPublic(method.getModifiers());
            CHECK.that(method + " has a name of its own", isFace || !face.contains(method.getName()));
        }
    }
}
