import java.io.IOException;
import java.lang.reflect.Constructor;
import java.lang.reflect.Field;
import java.lang.reflect.Method;
import java.lang.reflect.Modifier;
import java.nio.file.Files;
import java.nio.file.Path;
import java.util.Arrays;
import java.util.List;
import java.util.Set;
import java.util.TreeSet;
import java.util.regex.Matcher;
import java.util.regex.Pattern;

/** The face of the document, and the rules of LANGUAGE.md that a program can look at. */
public final class LanguageTest {
    private static final List<String> FACE = List.of(
            "int cube(int, int, boolean) IllegalArgumentException IllegalStateException",
            "void mirror(int, boolean) IllegalArgumentException",
            "int shapes(int) IllegalArgumentException",
            "long shape(int, int) IllegalArgumentException IndexOutOfBoundsException",
            "void target(int, int) IllegalArgumentException",
            "int places(int) IllegalArgumentException",
            "int pack(int) IllegalArgumentException",
            "int tries()",
            "boolean assemble(int, int) IllegalArgumentException",
            "void put(int, long) IllegalArgumentException IllegalStateException",
            "void take(int) IllegalArgumentException IllegalStateException",
            "long cells(int) IllegalArgumentException",
            "int plan(int, int) IllegalArgumentException",
            "int states()",
            "int move(int) IndexOutOfBoundsException");

    private LanguageTest() {
    }

    public static void main(String[] args) throws IOException {
        face();
        classesInside();
        text(Files.readString(Path.of("src/main/java/BlockWorkshop.java")));
        Check.end();
    }

    private static String line(Method m) {
        StringBuilder text = new StringBuilder();
        text.append(m.getReturnType().getSimpleName()).append(' ').append(m.getName()).append('(');
        String comma = "";
        for (Class<?> c : m.getParameterTypes()) {
            text.append(comma).append(c.getSimpleName());
            comma = ", ";
        }
        text.append(')');
        for (Class<?> c : m.getExceptionTypes()) {
            text.append(' ').append(c.getSimpleName());
        }
        return text.toString();
    }

    private static void face() {
        Class<?> c = BlockWorkshop.class;
        Check.same("rule 1: class", "public final", Modifier.toString(c.getModifiers()));
        Set<String> open = new TreeSet<>();
        Set<String> names = new TreeSet<>();
        for (Method m : c.getDeclaredMethods()) {
            if (!Modifier.isPrivate(m.getModifiers())) {
                open.add(line(m));
                names.add(m.getName());
                Check.same("rule 1: " + m, "public", Modifier.toString(m.getModifiers()));
            }
        }
        Check.same("rule 1: methods", new TreeSet<>(FACE).toString(), open.toString());
        Constructor<?>[] makers = c.getDeclaredConstructors();
        Check.same("rule 1: constructors", "[public BlockWorkshop()]", Arrays.toString(makers));
        for (Field f : c.getDeclaredFields()) {
            Check.same("rule 1: private " + f, "true", String.valueOf(Modifier.isPrivate(f.getModifiers())));
        }
        for (Method m : c.getDeclaredMethods()) {
            boolean twin = Modifier.isPrivate(m.getModifiers()) && names.contains(m.getName());
            Check.same("rule 1: name of " + m, "false", String.valueOf(twin));
        }
    }

    private static void classesInside() {
        Class<?>[] inside = BlockWorkshop.class.getDeclaredClasses();
        Check.same("rule 11: classes", "true", String.valueOf(inside.length < 12));
        for (Class<?> c : inside) {
            Check.same("rule 1: static " + c, "true", String.valueOf(Modifier.isStatic(c.getModifiers())));
            int own = 0;
            for (Field f : c.getDeclaredFields()) {
                boolean fixed = !Modifier.isStatic(f.getModifiers()) || Modifier.isFinal(f.getModifiers());
                Check.same("rule 5: " + f, "true", String.valueOf(fixed));
                own += Modifier.isStatic(f.getModifiers()) ? 0 : 1;
            }
            Check.same("rule 11: fields of " + c, "true", String.valueOf(own <= 20));
            for (Method m : c.getDeclaredMethods()) {
                Check.same("rule 11: " + m, "true", String.valueOf(m.getParameterCount() <= 7));
            }
        }
    }

    private static void text(String program) {
        String code = program.replaceAll("(?s)/\\*.*?\\*/", "").replaceAll("//[^\n]*", "");
        String[] never = {"->", "::", "\\btry\\b", "\\bfinally\\b", "\\bassert\\b", "\\bsynchronized\\b", "\\bHash\\w+",
            "\\bpackage\\b", "\\bThread\\b", "\\bSystem\\.(?!arraycopy)", "\\bObjects\\b", "\\bdouble\\b", "\\bfloat\\b",
            "\\w+Exact\\b", "\\bstatic \\{"};
        for (String word : never) {
            Matcher m = Pattern.compile(word).matcher(code);
            Check.same("rules 2 to 6: " + word, "false", String.valueOf(m.find()));
        }
        Matcher imports = Pattern.compile("import ([^;]+);").matcher(code);
        while (imports.find()) {
            Check.same("rule 4: import", "java.util.Arrays", imports.group(1));
        }
        lengths(code);
    }

    /** A method begins at a line with a brace at its end, four or eight in, and ends where that closes. */
    private static void lengths(String code) {
        String[] lines = code.split("\n");
        for (int i = 0; i < lines.length; i++) {
            Matcher head = Pattern.compile("^( {4}| {8})\\S.*\\).*\\{$").matcher(lines[i]);
            if (head.find()) {
                int end = i;
                while (end < lines.length && !lines[end].equals(head.group(1) + "}")) {
                    end++;
                }
                Check.same("rule 11: length of" + lines[i], "true", String.valueOf(end - i < 60));
            }
        }
    }
}
