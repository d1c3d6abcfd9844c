import java.io.IOException;
import java.nio.charset.StandardCharsets;
import java.nio.file.Files;
import java.nio.file.Path;
import java.util.List;
import java.util.regex.Matcher;
import java.util.regex.Pattern;

/** What of ../shared/LANGUAGE.md can be seen from the program's text, and the face that it shows. */
public final class LanguageTest {
    private static final Path PROGRAM = Path.of("src/main/java/WaxInEars.java");
    private static final List<String> FACE = List.of("int letter(int)", "int blank()", "int fault()", "int passage()",
        "int place(int, int)", "int man(int, int, int)", "int about(int, int)", "int as(int, int)",
        "int wax(int, boolean)", "int bind(int, int)", "int stroke()", "int outcome(int)", "int waxing(int, int)",
        "int hold(int)", "int listener()", "int sold()", "int log(int)", "int forget()", "int fits()", "int sure(int)",
        "int voyages(int, int, int)", "int image()", "int restore()", "int count(int)", "long digest()");
    private static final List<String> NOT_THERE = List.of("\\bimport\\b", "\\bpackage\\b", "->", "::", "\\bcatch\\b",
        "\\bthrow\\b", "\\bfinally\\b", "\\bsynchronized\\b", "\\bassert\\b", "static \\{",
        "\\bpublic static (?!final)", "\\bprotected\\b", "\\bObject\\b", "\\bdouble\\b", "\\bfloat\\b",
        "\\w+Exact\\b", "\\bThread\\b", "\\bSystem\\.(?!arraycopy)");

    public static void main(String[] args) throws IOException {
        Check check = new Check();
        check.begin("language");
        String text = Files.readString(PROGRAM, StandardCharsets.US_ASCII);
        String code = text.replaceAll("(?s)/\\*.*?\\*/", "").replaceAll("//[^\n]*", "");
        for (String pattern : NOT_THERE) {
            Matcher found = Pattern.compile(pattern).matcher(code);
            check.due("uses of " + pattern, 0, found.results().count());
        }
        madeInFieldsAlone(check, code);
        face(check);
        check.end();
    }

    /** Every object is a field's: no call makes one, so that one room holds any run. */
    private static void madeInFieldsAlone(Check check, String code) {
        long made = Pattern.compile("\\bnew\\b").matcher(code).results().count();
        long fields = Pattern.compile("(?m)^ +private final [\\w\\[\\]]+ \\w+ = new ").matcher(code).results().count();
        check.due("objects made in fields", made, fields);
        Matcher copies = Pattern.compile("\\.clone\\(|\\.copyOf").matcher(code);
        check.due("objects made elsewhere", 0, copies.results().count());
    }

    private static void face(Check check) {
        int methods = 0;
        for (java.lang.reflect.Method method : WaxInEars.class.getDeclaredMethods()) {
            int is = method.getModifiers();
            boolean isInFace = FACE.stream().anyMatch(line -> line.matches("\\w+ " + method.getName() + "\\(.*"));
            if (isInFace) {
                methods++;
                String types = java.util.Arrays.stream(method.getParameterTypes()).map(Class::getName)
                    .collect(java.util.stream.Collectors.joining(", "));
                String line = method.getReturnType() + " " + method.getName() + "(" + types + ")";
                check.due(line + " is in the face", 1, FACE.contains(line) ? 1 : 0);
                check.due(line + " is public", 1, java.lang.reflect.Modifier.isPublic(is) ? 1 : 0);
            } else {
                check.due(method.getName() + " is private", 1, java.lang.reflect.Modifier.isPrivate(is) ? 1 : 0);
            }
        }
        check.due("methods of the face", FACE.size(), methods);
        check.due("public fields", 5, WaxInEars.class.getFields().length);
        check.due("constructors", 1, WaxInEars.class.getConstructors().length);
    }
}
