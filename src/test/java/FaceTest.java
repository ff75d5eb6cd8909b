import java.io.IOException;
import java.lang.reflect.Constructor;
import java.lang.reflect.Field;
import java.lang.reflect.Method;
import java.lang.reflect.Modifier;
import java.nio.file.Files;
import java.nio.file.Path;
import java.util.Set;
import java.util.TreeSet;
import java.util.regex.Matcher;
import java.util.regex.Pattern;

/** The public face, and those rules of LANGUAGE.md that can be read off the class or its text. */
public final class FaceTest {
    private static final Due DUE = new Due("FaceTest");
    private static final String[] FACE = {
        "block()int", "put(int,int,int,int,int)int", "ends(int,int,int,int,int)boolean",
        "clear()int", "about(int,int)int", "predecessor(int,int)int", "dominates(int,int)int",
        "meets(int,int)int", "value(int,int)int", "operand(int,int)int", "led(int,int)int",
        "classOf(int)int", "read(int,boolean)int", "emits(int,int,boolean)int",
        "run(int,int,int,int,int)int", "fuel(int)int", "ran(int)int", "emitted(int)int",
        "count(int)int",
    };
    private static final String[] FORBIDDEN = {
        "\\bthrow\\b", "\\bthrows\\b", "\\btry\\b", "\\bcatch\\b", "\\bsynchronized\\b",
        "\\bassert\\b", "->", "::", "\\bpackage\\b", "\\bprotected\\b", "\\bequals\\b",
        "\\bhashCode\\b", "\\btoString\\b", "Exact\\b", "\\bvar\\b", "static \\{", "\\bvolatile\\b",
        "while \\(true\\)", "for \\(;;\\)",
    };

    // Of what rule 4 lists, all that the class has needed so far.
    private static final Set<String> LIBRARY = Set.of("Arrays.fill", "System.arraycopy",
            "Integer.bitCount");
    private static final Pattern LIBRARY_CALL = Pattern.compile(
            "\\b(Arrays|System|Integer|Long|Math|Character|Objects|String)\\.\\w+");

    public static void main(String[] args) throws IOException {
        face();
        members(ValueBench.class);
        Class<?>[] inside = ValueBench.class.getDeclaredClasses();
        DUE.is("at most twelve classes", inside.length + 1 <= 12, true);
        for (Class<?> own : inside) {
            DUE.is(own + " is static", Modifier.isStatic(own.getModifiers()), true);
            DUE.is(own + " is not public", Modifier.isPublic(own.getModifiers()), false);
            members(own);
        }
        text(Files.readString(Path.of("src/main/java/ValueBench.java")));
        DUE.end();
    }

    private static String shape(Method method) {
        StringBuilder text = new StringBuilder(method.getName()).append('(');
        for (Class<?> type : method.getParameterTypes()) {
            text.append(text.charAt(text.length() - 1) == '(' ? "" : ",").append(type.getName());
        }
        return text.append(')').append(method.getReturnType().getName()).toString();
    }

    private static void face() {
        Set<String> found = new TreeSet<>();
        for (Method method : ValueBench.class.getDeclaredMethods()) {
            if (!Modifier.isPrivate(method.getModifiers())) {
                DUE.is(method + " is public", Modifier.isPublic(method.getModifiers()), true);
                DUE.is(method + " is not static", Modifier.isStatic(method.getModifiers()), false);
                found.add(shape(method));
            }
        }
        DUE.is("methods as in the document", found.equals(Set.of(FACE)), true);
        Constructor<?>[] constructors = ValueBench.class.getDeclaredConstructors();
        DUE.is("constructors", constructors.length, 1);
        DUE.is("its parameters", constructors[0].getParameterCount(), 0);
        DUE.is("it is public", Modifier.isPublic(constructors[0].getModifiers()), true);
        DUE.is("the class is final", Modifier.isFinal(ValueBench.class.getModifiers()), true);
        for (Field field : ValueBench.class.getDeclaredFields()) {
            boolean isPrivate = Modifier.isPrivate(field.getModifiers());
            DUE.is(field + " is private", isPrivate, !field.getName().equals("NONE"));
        }
    }

    private static void members(Class<?> own) {
        int fields = 0;
        for (Field field : own.getDeclaredFields()) {
            boolean isStatic = Modifier.isStatic(field.getModifiers());
            boolean isFinal = Modifier.isFinal(field.getModifiers());
            DUE.is(field + " is final if static", !isStatic || isFinal, true);
            fields += isStatic ? 0 : 1;
        }
        DUE.is("at most twenty fields in " + own, fields <= 20, true);
        for (Method method : own.getDeclaredMethods()) {
            DUE.is(method + " takes seven at most", method.getParameterCount() <= 7, true);
            for (String shape : FACE) {
                boolean named = shape.startsWith(method.getName() + "(");
                DUE.is(method + " has a name of its own", named && own != ValueBench.class, false);
                DUE.is(method + " is not private", named
                        && Modifier.isPrivate(method.getModifiers()), false);
            }
        }
    }

    private static void text(String text) {
        String code = text.replaceAll("(?s)/\\*.*?\\*/", "").replaceAll("//[^\n]*", "");
        for (String word : FORBIDDEN) {
            DUE.is("the text has " + word, Pattern.compile(word).matcher(code).find(), false);
        }
        for (Matcher m = LIBRARY_CALL.matcher(code); m.find();) {
            DUE.is(m.group() + " is of rule 4", LIBRARY.contains(m.group()), true);
        }
        String imports = String.join(" ", code.lines().filter(l -> l.startsWith("import")).toList());
        DUE.is("imports", imports.equals("import java.util.Arrays;"), true);
        int length = 0;
        for (String line : text.split("\n")) {
            boolean inside = line.startsWith("         ") || line.isBlank();
            length = inside ? length + 1 : 0;
            DUE.is("a method has sixty lines at most", length <= 60, true);
            DUE.is("characters up to 255", line.chars().allMatch(c -> c <= 255), true);
        }
    }
}
