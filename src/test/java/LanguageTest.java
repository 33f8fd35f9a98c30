import java.io.IOException;
import java.lang.reflect.Constructor;
import java.lang.reflect.Field;
import java.lang.reflect.Method;
import java.lang.reflect.Modifier;
import java.nio.file.Files;
import java.nio.file.Path;
import java.util.Arrays;
import java.util.List;
import java.util.Set;
import java.util.TreeSet;
import java.util.regex.Matcher;
import java.util.regex.Pattern;

/** Whether the class keeps to ../shared/LANGUAGE.md and to the face, as far as a program can tell. */
public final class LanguageTest {
    private static final Check check = new Check("LanguageTest");

    private static final String FACE = """
        public int number(long) throws IllegalStateException
        public int name(int) throws IndexOutOfBoundsException,IllegalStateException
        public int input(int) throws IndexOutOfBoundsException,IllegalStateException
        public int draw() throws IllegalStateException
        public int two(int) throws IllegalArgumentException,IllegalStateException
        public int choose() throws IllegalStateException
        public int local(int) throws IndexOutOfBoundsException,IllegalStateException
        public int function(int) throws IndexOutOfBoundsException,IllegalStateException
        public int call() throws IllegalStateException
        public int cell() throws IllegalStateException
        public int define(int,int) throws IndexOutOfBoundsException,IllegalStateException
        public int drop(int,int) throws IndexOutOfBoundsException,IllegalStateException
        public int remove(int) throws IndexOutOfBoundsException
        public int rename(int,int) throws IndexOutOfBoundsException,IllegalStateException
        public long setInput(int,long) throws IndexOutOfBoundsException
        public int seed(int)
        public int mode(int) throws IllegalArgumentException
        public int run(int) throws IndexOutOfBoundsException
        public int keep() throws IllegalStateException
        public boolean take(int,int) throws IndexOutOfBoundsException
        public int differ(int) throws IndexOutOfBoundsException
        public int error(int) throws IndexOutOfBoundsException
        public boolean isStale(int) throws IndexOutOfBoundsException
        public int kind(int,int) throws IndexOutOfBoundsException
        public long value(int,int) throws IndexOutOfBoundsException,IllegalStateException
        public long valueAnew(int,int) throws IndexOutOfBoundsException
        public int errorAnew(int) throws IndexOutOfBoundsException
        public int reads(int) throws IndexOutOfBoundsException
        public int slice(int) throws IndexOutOfBoundsException
        public int runs(int) throws IndexOutOfBoundsException
        """;

    private static final List<String> FORBIDDEN = List.of("->", "::", "\\bimport\\b", "\\bpackage\\b", "\\bsynchronized\\b",
        "\\bassert\\b", "\\bfinally\\b", "\\bcatch\\b", "\\btry\\b", "\\bvar\\b", "\\bThread\\b", "\\bequals\\b",
        "\\bhashCode\\b", "\\btoString\\b", "\\bMath\\.(?!min\\(|max\\(|abs\\()", "Exact\\(", "\\bSystem\\b", "\\bRandom\\b",
        "\\bdouble\\b", "\\bfloat\\b", "\\bstatic \\{", "\\bprotected\\b", "\\bextends\\b", "\\bimplements\\b",
        "\\bwhile \\(true\\)", "\\bfor \\(;;\\)", "\\bObject\\b", "\\bString\\b", "\" \\+", "\\+ \"");

    public static void main(String[] args) throws IOException {
        theFace();
        theRest();
        nested();
        theText();
        check.end();
    }

    private static Set<String> faceNames() {
        Set<String> names = new TreeSet<>();
        Matcher matcher = Pattern.compile(" (\\w+)\\(").matcher(FACE);
        while (matcher.find()) {
            names.add(matcher.group(1));
        }
        return names;
    }

    private static void theFace() {
        Set<String> due = new TreeSet<>(Arrays.asList(FACE.strip().split("\\s*\n\\s*")));
        Set<String> got = new TreeSet<>();
        for (Method method : Cellbrook.class.getDeclaredMethods()) {
            if (Modifier.isPublic(method.getModifiers())) {
                got.add(method.toGenericString().replace("Cellbrook.", "").replace("java.lang.", ""));
            } else {
                check.yes("private: " + method, Modifier.isPrivate(method.getModifiers()));
                check.no("a private method with a public name: " + method, faceNames().contains(method.getName()));
            }
        }
        check.same("the public methods", String.join("\n", got), String.join("\n", due));
        Constructor<?>[] constructors = Cellbrook.class.getDeclaredConstructors();
        check.same("constructors", constructors.length, 1);
        check.yes("public", Modifier.isPublic(constructors[0].getModifiers()));
        check.same("of no arguments", constructors[0].getParameterCount(), 0);
        check.yes("public final", Cellbrook.class.getModifiers() == (Modifier.PUBLIC | Modifier.FINAL));
    }

    private static void theRest() {
        Set<String> constants = new TreeSet<>();
        for (Field field : Cellbrook.class.getDeclaredFields()) {
            if (Modifier.isPublic(field.getModifiers())) {
                constants.add(field.getName());
                check.yes("a constant " + field, Modifier.isStatic(field.getModifiers())
                    && Modifier.isFinal(field.getModifiers()) && field.getType() == int.class);
            } else {
                check.yes("private: " + field, Modifier.isPrivate(field.getModifiers()));
            }
        }
        check.same("the constants", String.join(" ", constants),
            "AT_ONCE BY_HAND BY_NEED FUNCTION NONE NOTHING NUMBER");
    }

    private static void nested() {
        Class<?>[] classes = Cellbrook.class.getDeclaredClasses();
        check.yes("twelve classes at most", classes.length + 1 <= 12);
        for (Class<?> one : classes) {
            check.yes("static and not public: " + one, Modifier.isStatic(one.getModifiers())
                && !Modifier.isPublic(one.getModifiers()) && !Modifier.isProtected(one.getModifiers()));
            members(one);
        }
        members(Cellbrook.class);
    }

    private static void members(Class<?> one) {
        int fields = 0;
        for (Field field : one.getDeclaredFields()) {
            boolean isStatic = Modifier.isStatic(field.getModifiers());
            fields += isStatic ? 0 : 1;
            check.yes("a static field is a constant: " + field, !isStatic
                || Modifier.isFinal(field.getModifiers()) && field.getType().isPrimitive());
        }
        check.yes("twenty fields at most: " + one, fields <= 20);
        for (Method method : one.getDeclaredMethods()) {
            check.yes("seven parameters at most: " + method, method.getParameterCount() <= 7);
            check.no("a public name: " + method, one != Cellbrook.class && faceNames().contains(method.getName()));
        }
    }

    private static void theText() throws IOException {
        String text = Files.readString(Path.of("src/main/java/Cellbrook.java"));
        String code = text.replaceAll("(?s)/\\*.*?\\*/", "").replaceAll("//[^\n]*", "");
        for (String forbidden : FORBIDDEN) {
            Matcher matcher = Pattern.compile(forbidden).matcher(code);
            check.no("there is " + forbidden, matcher.find());
        }
        for (int i = 0; i < text.length(); i++) {
            check.yes("a sign of 1 to 127", text.charAt(i) > 0 && text.charAt(i) < 128);
        }
        methodsAreShort(text);
    }

    private static void methodsAreShort(String text) {
        String[] lines = text.split("\n");
        int begun = -1;
        String end = "";
        for (int i = 0; i < lines.length; i++) {
            if (begun < 0 && lines[i].matches("( {4}| {8})[\\w<].*\\) (throws .*)?\\{")) {
                begun = i;
                end = lines[i].replaceAll("\\S.*", "") + "}";
            } else if (begun >= 0 && lines[i].equals(end)) {
                check.yes("sixty lines at most: " + lines[begun].strip(), i - begun < 60);
                begun = -1;
            }
        }
        check.same("each method has an end", begun, -1);
    }
}
