import java.io.IOException;
import java.lang.reflect.Constructor;
import java.lang.reflect.Field;
import java.lang.reflect.Method;
import java.lang.reflect.Modifier;
import java.nio.file.Files;
import java.nio.file.Path;
import java.util.TreeSet;
import java.util.regex.Matcher;
import java.util.regex.Pattern;

/** What can be seen of LANGUAGE.md's rules: the face by reflection, and the rest in the source, without comments and texts. */
public final class LanguageTest {
    private static final String[] FACE = {
        "int sign(int)", "boolean end(int)", "int strings()", "int rule()", "int bracelet(int,int)", "int bead(int,int)", "int stock(int)",
        "int sheet(int,int,int,int)", "int rolls(int,int)", "int flips(int)", "int swaps(int,int)", "int threads(int,int,int)",
        "int cuts(int,int)", "int joins(int,int)", "int parts(int)", "int sells(int)", "int buys(int,int)", "int day()", "int undo()",
        "int least(int)", "int alike(int,int)", "int kinds()", "int far(int,int)", "int finds(int)", "int words(int,int)", "int twice(int)",
        "int arc(int)", "int many(int,int)", "int ways()", "int nth(int,int,int)", "int rank(int)", "int next(int)", "int once(int,int)",
        "int made(int)", "int dear(int)", "int odds(int)", "int felt(int,int)", "int forget()", "int guess(int)", "int feels(int)",
        "int heard(int,int)", "int denies()", "int fits()", "int asks()", "int ring(int)", "int law()", "int bargains(int)",
        "int years(int,int)", "boolean keep(int)", "boolean again(int)", "int count(int)", "long row(int)"};

    /** Rule 3, 4, 6, 10, 13 and the machine's own exceptions: none of these comes in the class. */
    private static final String[] BANNED = {
        "->", "::", "\\btry\\b", "\\bcatch\\b", "\\bfinally\\b", "\\bsynchronized\\b", "\\bassert\\b", "\\bdouble\\b", "\\bfloat\\b", "Exact\\b",
        "\\bstatic \\{", "\\bhashCode\\b", "\\btoString\\b", "\\bequals\\b", "\\bwhile\\b", "\\bObject\\b", "\\bRandom\\b", "\\bnull\\b",
        "\\bSystem\\.(?!arraycopy)", "\\bArrays\\b", "\\bString\\.", "\\bprotected\\b", "\\binstanceof\\b"};

    private static String source() throws IOException {
        String source = Files.readString(Path.of("src/main/java/BeadRings.java"));
        Due.due("signs of the source are 1 to 127", true, source.chars().allMatch(c -> c > 0 && c < 128));
        return source.replaceAll("(?s)/\\*.*?\\*/", "").replaceAll("//[^\n]*", "").replaceAll("\"[^\"\n]*\"", "\"\"");
    }

    private static String told(Method method) {
        StringBuilder told = new StringBuilder(method.getReturnType().getSimpleName() + " " + method.getName() + "(");
        for (Class<?> type : method.getParameterTypes()) {
            told.append(told.charAt(told.length() - 1) == '(' ? "" : ",").append(type.getSimpleName());
        }
        return told.append(")").toString();
    }

    private static void face() {
        TreeSet<String> want = new TreeSet<>(java.util.Arrays.asList(FACE));
        TreeSet<String> got = new TreeSet<>();
        TreeSet<String> names = new TreeSet<>();
        for (Method method : BeadRings.class.getDeclaredMethods()) {
            if (Modifier.isPublic(method.getModifiers())) {
                got.add(told(method));
                names.add(method.getName());
            } else {
                Due.due(method.getName() + " is private", true, Modifier.isPrivate(method.getModifiers()));
            }
        }
        Due.due("the face " + got, true, want.equals(got));
        for (Method method : BeadRings.class.getDeclaredMethods()) {
            if (!Modifier.isPublic(method.getModifiers())) {
                Due.due(method.getName() + " is no name of the face", false, names.contains(method.getName()));
            }
        }
        for (Field field : BeadRings.class.getDeclaredFields()) {
            boolean isNone = field.getName().equals("NONE");
            Due.due(field.getName(), isNone, Modifier.isPublic(field.getModifiers()));
            Due.due(field.getName(), !isNone, Modifier.isPrivate(field.getModifiers()));
        }
        Constructor<?>[] constructors = BeadRings.class.getDeclaredConstructors();
        Due.due("constructors", 1, constructors.length);
        Due.due("public and final", true, Modifier.isPublic(BeadRings.class.getModifiers()) && Modifier.isFinal(BeadRings.class.getModifiers()));
        inside(names);
    }

    private static void inside(TreeSet<String> names) {
        Class<?>[] inside = BeadRings.class.getDeclaredClasses();
        Due.due("twelve classes at most", true, inside.length + 1 <= 12);
        for (Class<?> one : inside) {
            Due.due(one + " is static", true, Modifier.isStatic(one.getModifiers()));
            Due.due(one + " is not public", false, Modifier.isPublic(one.getModifiers()));
            int fields = 0;
            for (Field field : one.getDeclaredFields()) {
                boolean isStatic = Modifier.isStatic(field.getModifiers());
                fields += isStatic ? 0 : 1;
                Due.due(one + "." + field.getName(), true, !isStatic || Modifier.isFinal(field.getModifiers()));
            }
            Due.due(one + " has some twenty fields", true, fields <= 20);
            for (Method method : one.getDeclaredMethods()) {
                Due.due(one + "." + method.getName() + " is no name of the face", false, names.contains(method.getName()));
                Due.due(one + "." + method.getName() + " has seven parameters at most", true, method.getParameterCount() <= 7);
            }
        }
    }

    private static void words(String source) {
        for (String banned : BANNED) {
            Due.due(banned + " in the source", false, Pattern.compile(banned).matcher(source).find());
        }
        Matcher imports = Pattern.compile("import ([^;]+);").matcher(source);
        while (imports.find()) {
            Due.due("import " + imports.group(1), true, imports.group(1).equals("java.util.NoSuchElementException"));
        }
        Matcher thrown = Pattern.compile("throw ([^;]+);").matcher(source);
        while (thrown.find()) {
            Due.due("throw " + thrown.group(1), true, thrown.group(1).equals("new NoSuchElementException(\"\")"));
        }
        Matcher library = Pattern.compile("\\b(Integer|Math|Long)\\.(\\w+)").matcher(source);
        while (library.find()) {
            Due.due(library.group(), true, java.util.List.of("min", "max", "bitCount", "numberOfTrailingZeros").contains(library.group(2)));
        }
    }

    /** A method's lines, from its head to the bracket that ends it at the head's own depth. */
    private static void lengths(String source) {
        String[] lines = source.split("\n");
        for (int i = 0; i < lines.length; i++) {
            Matcher head = Pattern.compile("^( {4}| {8})(?! )[^=;]*\\) (throws \\w+ )?\\{$").matcher(lines[i]);
            if (head.find() && !lines[i].contains("class ")) {
                int end = i;
                while (!lines[end].equals(head.group(1) + "}")) {
                    end++;
                }
                Due.due("lines of " + lines[i].trim(), true, end - i <= 60);
            }
        }
    }

    public static void main(String[] args) throws IOException {
        String source = source();
        face();
        words(source);
        lengths(source);
        Due.end("LanguageTest");
    }
}
