import java.io.IOException;
import java.nio.charset.StandardCharsets;
import java.nio.file.Files;
import java.nio.file.Path;
import java.util.List;
import java.util.regex.Matcher;
import java.util.regex.Pattern;

/** What of ../shared/LANGUAGE.md can be seen from the program's text, and the face that it shows. */
public final class LanguageTest {
    private static final Path PROGRAM = Path.of("src/main/java/WaxInEars.java");
    private static final List<String> FACE = List.of("int letter(int)", "int blank()", "int fault()", "int passage()",
        "int place(int, int)", "int man(int, int, int)", "int about(int, int)", "int as(int, int)",
        "int wax(int, boolean)", "int bind(int, int)", "int stroke()", "int outcome(int)", "int waxing(int, int)",
        "int hold(int)", "int listener()", "int sold()", "int log(int)", "int forget()", "int fits()", "int sure(int)",
        "int voyages(int, int, int)", "int image()", "int restore()", "int count(int)", "long digest()");
    private static final List<String> NOT_THERE = List.of("\\bimport\\b", "\\bpackage\\b", "->", "::", "\\bcatch\\b",
        "\\bthrow\\b", "\\bfinally\\b", "\\bsynchronized\\b", "\\bassert\\b", "static \\{",
        "\\bpublic static (?!final)", "\\bprotected\\b", "\\bObject\\b", "\\bdouble\\b", "\\bfloat\\b",
        "\\w+Exact\\b", "\\bThread\\b", "\\bSystem\\.(?!arraycopy)");

    public static void main(String[] args) throws IOException {
        Check check = new Check();
        check.begin("language");
        String text = Files.readString(PROGRAM, StandardCharsets.US_ASCII);
        String code = text.replaceAll("(?s)/\\*.*?\\*/", "").replaceAll("//[^\n]*", "");
        for (String pattern : NOT_THERE) {
            Matcher found = Pattern.compile(pattern).matcher(code);
            check.due("uses of " + pattern, 0, found.results().count());
        }
        madeInFieldsAlone(check, code);
        face(check);
        classesInside(check);
        check.end();
    }

    /** Every object is a field's: no call makes one, so that one room holds any run. */
    private static void madeInFieldsAlone(Check check, String code) {
        long made = Pattern.compile("\\bnew\\b").matcher(code).results().count();
        long fields = Pattern.compile("(?m)^ +private final [\\w\\[\\]]+ \\w+ = new ").matcher(code).results().count();
        check.due("objects made in fields", made, fields);
        Matcher copies = Pattern.compile("\\.clone\\(|\\.copyOf").matcher(code);
        check.due("objects made elsewhere", 0, copies.results().count());
    }

    private static void face(Check check) {
        int methods = 0;
        for (java.lang.reflect.Method method : WaxInEars.class.getDeclaredMethods()) {
            int is = method.getModifiers();
            boolean isInFace = FACE.stream().anyMatch(line -> line.matches("\\w+ " + method.getName() + "\\(.*"));
            if (isInFace) {
                methods++;
                String types = java.util.Arrays.stream(method.getParameterTypes()).map(Class::getName)
                    .collect(java.util.stream.Collectors.joining(", "));
                String line = method.getReturnType() + " " + method.getName() + "(" + types + ")";
                check.due(line + " is in the face", 1, FACE.contains(line) ? 1 : 0);
                check.due(line + " is public", 1, java.lang.reflect.Modifier.isPublic(is) ? 1 : 0);
            } else {
                check.due(method.getName() + " is private", 1, java.lang.reflect.Modifier.isPrivate(is) ? 1 : 0);
            }
        }
        check.due("methods of the face", FACE.size(), methods);
        check.due("public fields", 5, WaxInEars.class.getFields().length);
        check.due("constructors", 1, WaxInEars.class.getConstructors().length);
    }
    /** Rules 1, 2 and 11: static and not public, no name of the face, few parameters, fields and classes. */
    private static void classesInside(Check check) {
        Class<?>[] classes = WaxInEars.class.getDeclaredClasses();
        check.due("at most twelve classes", 1, classes.length < 12 ? 1 : 0);
        smallEnough(check, WaxInEars.class);
        for (Class<?> inside : classes) {
            int is = inside.getModifiers();
            check.due(inside + " is static", 1, java.lang.reflect.Modifier.isStatic(is) ? 1 : 0);
            check.due(inside + " is public", 0, java.lang.reflect.Modifier.isPublic(is) ? 1 : 0);
            smallEnough(check, inside);
            for (java.lang.reflect.Method method : inside.getDeclaredMethods()) {
                boolean isInFace = FACE.stream().anyMatch(line -> line.matches("\\w+ " + method.getName() + "\\(.*"));
                check.due(inside + ", " + method.getName() + " has a name of the face", 0, isInFace ? 1 : 0);
            }
        }
    }

    private static void smallEnough(Check check, Class<?> one) {
        long fields = java.util.Arrays.stream(one.getDeclaredFields())
            .filter(field -> !java.lang.reflect.Modifier.isStatic(field.getModifiers())).count();
        check.due(one + " has at most twenty fields", 1, fields <= 20 ? 1 : 0);
        for (java.lang.reflect.Field field : one.getDeclaredFields()) {
            boolean isStatic = java.lang.reflect.Modifier.isStatic(field.getModifiers());
            boolean isFinal = java.lang.reflect.Modifier.isFinal(field.getModifiers());
            check.due(one + ", " + field.getName() + " is static and not final", 0, isStatic && !isFinal ? 1 : 0);
        }
        for (java.lang.reflect.Method method : one.getDeclaredMethods()) {
            check.due(method + " has at most seven parameters", 1, method.getParameterCount() <= 7 ? 1 : 0);
        }
    }
}
