import java.io.IOException;
import java.lang.reflect.Constructor;
import java.lang.reflect.Field;
import java.lang.reflect.Method;
import java.lang.reflect.Modifier;
import java.nio.file.Files;
import java.nio.file.Path;
import java.util.ArrayList;
import java.util.Arrays;
import java.util.List;
import java.util.Set;
import java.util.TreeSet;
import java.util.regex.Matcher;
import java.util.regex.Pattern;

/** The face is the document's and no more, and the file keeps to what LANGUAGE.md lets be checked by its words. */
public final class FaceTest {
    private static final Path SOURCE = Path.of("src/main/java/RopesTieThemselves.java");
    private static final Path DOCUMENT = Path.of("../shared/DOC.md");
    private static final Set<Class<?>> CONSTANTS = Set.of(int.class, long.class, boolean.class, char.class, String.class);
    /** What the class uses of LANGUAGE.md's rule 4; a use of more is looked up there first. */
    private static final Set<String> LIBRARY = Set.of("System.arraycopy", "Math.max", "Math.min", "Math.abs",
        "Integer.bitCount", "Integer.numberOfTrailingZeros");
    private static final Set<String> OF_TEXTS = Set.of("length", "charAt", "isEmpty");
    private static final int MOST_LINES = 60;
    private static int wrong = 0;

    private static void must(boolean so, String what) {
        if (!so) {
            wrong++;
            System.out.println(what);
        }
    }

    public static void main(String[] args) throws IOException {
        Class<?> face = RopesTieThemselves.class;
        must(Modifier.isPublic(face.getModifiers()) && Modifier.isFinal(face.getModifiers()), "not public and final");
        must(face.getPackageName().isEmpty(), "it has a package");
        methodsAreTheDocuments(face);
        constructorsAndFields(face);
        nestedClasses(face);
        String source = Files.readString(SOURCE);
        words(source);
        String code = source.replaceAll("(?s)/\\*.*?\\*/", "").replaceAll("//[^\n]*", "");
        library(face, code);
        lengths(code);
        System.out.println(wrong == 0 ? "the face is as told" : wrong + " things are not as told");
        if (wrong != 0) {
            System.exit(1);
        }
    }

    private static void methodsAreTheDocuments(Class<?> face) throws IOException {
        String document = Files.readString(DOCUMENT);
        Matcher line = Pattern.compile("\n    public (int|long) (\\w+)\\(([^)]*)\\);").matcher(document);
        Set<String> want = new TreeSet<>();
        while (line.find()) {
            int parameters = line.group(3).isEmpty() ? 0 : line.group(3).split(",").length;
            want.add(line.group(1) + " " + line.group(2) + " " + parameters);
        }
        must(want.size() == 43, "the document has " + want.size() + " methods");
        Set<String> got = new TreeSet<>();
        Set<String> names = new TreeSet<>();
        for (Method method : face.getDeclaredMethods()) {
            if (Modifier.isPublic(method.getModifiers())) {
                got.add(method.getReturnType() + " " + method.getName() + " " + method.getParameterCount());
                names.add(method.getName());
                must(Arrays.stream(method.getParameterTypes()).allMatch(t -> t == int.class), "parameters of " + method);
            }
        }
        must(got.equals(want), "methods are " + got);
        List<Method> own = new ArrayList<>(Arrays.asList(face.getDeclaredMethods()));
        for (Class<?> inside : face.getDeclaredClasses()) {
            own.addAll(Arrays.asList(inside.getDeclaredMethods()));
        }
        for (Method method : own) {
            boolean inFace = method.getDeclaringClass() == face;
            must(Modifier.isPublic(method.getModifiers()) || !names.contains(method.getName()), "a public one's name: " + method);
            must(!inFace || Modifier.isPublic(method.getModifiers()) || Modifier.isPrivate(method.getModifiers()), "seen: " + method);
            must(method.getParameterCount() <= 7, "parameters: " + method);
        }
    }

    private static void constructorsAndFields(Class<?> face) {
        Constructor<?>[] constructors = face.getDeclaredConstructors();
        must(constructors.length == 1 && constructors[0].getParameterCount() == 0
            && Modifier.isPublic(constructors[0].getModifiers()), "constructors " + Arrays.toString(constructors));
        for (Field field : face.getDeclaredFields()) {
            must(Modifier.isPrivate(field.getModifiers()), "seen: " + field);
        }
    }

    /** Nothing that one object leaves behind may be seen by another. */
    private static void staticFields(Class<?> holder) {
        for (Field field : holder.getDeclaredFields()) {
            must(!Modifier.isStatic(field.getModifiers()) || Modifier.isFinal(field.getModifiers())
                && CONSTANTS.contains(field.getType()), "static: " + field);
        }
    }

    private static void nestedClasses(Class<?> face) {
        must(face.getDeclaredClasses().length <= 12, "too many classes");
        staticFields(face);
        for (Class<?> inside : face.getDeclaredClasses()) {
            staticFields(inside);
            must(Modifier.isStatic(inside.getModifiers()) && !Modifier.isPublic(inside.getModifiers()), "class " + inside);
            must(inside.getDeclaredFields().length <= 20, "fields of " + inside);
        }
    }

    private static void words(String source) {
        for (String word : List.of("throw", "throws", "try", "catch", "synchronized", "assert", "import", "package", "static {",
            "->", "::", "MAX_VALUE", "MIN_VALUE", "hashCode", "toString", "System.out", "nanoTime", "Random", "while (true)")) {
            String pattern = Character.isLetter(word.charAt(0)) ? "\\b" + Pattern.quote(word) + "(?!\\w)" : Pattern.quote(word);
            must(!Pattern.compile(pattern).matcher(source).find(), "the file has '" + word + "'");
        }
        must(source.chars().allMatch(c -> c > 0 && c < 128), "a sign above 127");
    }

    private static void library(Class<?> face, String code) {
        Set<String> classes = new TreeSet<>(Set.of(face.getSimpleName()));
        Set<String> called = new TreeSet<>(OF_TEXTS);
        for (Class<?> inside : face.getDeclaredClasses()) {
            classes.add(inside.getSimpleName());
            Arrays.stream(inside.getDeclaredMethods()).forEach(method -> called.add(method.getName()));
        }
        Matcher named = Pattern.compile("\\b([A-Z][a-z]\\w*)\\.(\\w+)").matcher(code);
        while (named.find()) {
            must(classes.contains(named.group(1)) || LIBRARY.contains(named.group()), "the library's " + named.group());
        }
        Matcher asked = Pattern.compile("(?<!\\b[A-Z]\\w{0,20})\\.(\\w+)\\(").matcher(code);
        while (asked.find()) {
            must(called.contains(asked.group(1)), "a call of " + asked.group(1));
        }
        Matcher made = Pattern.compile("\\bnew (\\w+)").matcher(code);
        while (made.find()) {
            must(classes.contains(made.group(1)) || made.group(1).equals("int"), "it makes " + made.group(1));
        }
    }

    private static void lengths(String code) {
        Matcher method = Pattern.compile("(?m)^( +)[\\w\\[\\] ]+\\([\\w\\[\\], ]*\\) \\{\n(.*\n)*?\\1\\}").matcher(code);
        int found = 0;
        while (method.find()) {
            found++;
            long lines = method.group().lines().count();
            must(lines <= MOST_LINES, lines + " lines: " + method.group().lines().findFirst().orElse(""));
        }
        must(found > 100, "methods found in the file: " + found);
    }
}
