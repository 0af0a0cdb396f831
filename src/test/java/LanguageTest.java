import java.lang.reflect.Constructor;
import java.lang.reflect.Executable;
import java.lang.reflect.Field;
import java.lang.reflect.Method;
import java.lang.reflect.Modifier;
import java.nio.file.Files;
import java.nio.file.Path;
import java.util.ArrayList;
import java.util.Arrays;
import java.util.List;
import java.util.Set;
import java.util.TreeSet;
import java.util.regex.Matcher;
import java.util.regex.Pattern;

/** What of LANGUAGE.md, and of the public face in DOC.md, a program can look at by itself. */
public final class LanguageTest {
    private static final Path SOURCE = Path.of("src/main/java/BarsTogether.java");
    private static final Path DOCUMENT = Path.of("../shared/DOC.md");
    private static final String[] NO_WORDS = {"throw", "throws", "try", "catch", "finally", "synchronized", "assert",
        "import", "package", "protected", "volatile", "transient", "native", "var", "Object", "equals", "hashCode",
        "toString", "float", "double"};

    private static int wrong;

    public static void main(String[] args) throws Exception {
        String code = withoutComments(Files.readString(SOURCE));
        words(code);
        face();
        members();
        methodLengths(code);
        if (wrong != 0) {
            System.exit(1);
        }
        System.out.println("the language is kept to");
    }

    private static void refuse(boolean bad, String why) {
        if (bad) {
            wrong++;
            System.out.println(why);
        }
    }

    private static String withoutComments(String source) {
        return Pattern.compile("/\\*.*?\\*/", Pattern.DOTALL).matcher(source).replaceAll("").replaceAll("//[^\n]*", "");
    }

    private static void words(String code) {
        for (String word : NO_WORDS) {
            refuse(Pattern.compile("\\b" + word + "\\b").matcher(code).find(), "rule 4 or 6: " + word);
        }
        refuse(code.contains("->") || code.contains("::"), "rule 2: a lambda or a method reference");
        Matcher library = Pattern.compile("\\b(Math|System|Arrays|Integer|Long)\\.(\\w+)").matcher(code);
        while (library.find()) {
            boolean known = Set.of("max", "min", "abs", "floorMod", "arraycopy").contains(library.group(2));
            refuse(!known, "rule 4: " + library.group());
        }
        refuse(!code.chars().allMatch(c -> c == '\n' || c >= 32 && c < 127), "rule 4: a sign beyond 127");
    }

    /** Every row of the face in DOC.md is there, and no more. */
    private static void face() throws Exception {
        String document = Files.readString(DOCUMENT);
        String face = document.substring(document.indexOf("```java"), document.indexOf("}\n```"));
        Set<String> due = new TreeSet<>();
        Matcher row = Pattern.compile("public (int|long) (\\w+)\\(([^)]*)\\);").matcher(face);
        while (row.find()) {
            due.add(row.group(1) + " " + row.group(2) + "(" + row.group(3) + ")");
        }
        Set<String> got = new TreeSet<>();
        for (Method method : BarsTogether.class.getDeclaredMethods()) {
            if (Modifier.isPublic(method.getModifiers())) {
                List<String> parameters = new ArrayList<>();
                Arrays.stream(method.getParameters()).forEach(p -> parameters.add(p.getType() + " " + p.getName()));
                got.add(method.getReturnType() + " " + method.getName() + "(" + String.join(", ", parameters) + ")");
            }
        }
        refuse(due.size() != 48, "DOC.md lists " + due.size() + " methods");
        refuse(!due.equals(got), "rule 1: the face is " + got + ", due is " + due);
    }

    private static void members() {
        Class<?>[] inside = BarsTogether.class.getDeclaredClasses();
        refuse(!Modifier.isFinal(BarsTogether.class.getModifiers()), "rule 1: the class is final");
        refuse(inside.length + 1 > 12, "rule 11: " + (inside.length + 1) + " classes");
        Set<String> publicNames = new TreeSet<>();
        for (Method method : BarsTogether.class.getDeclaredMethods()) {
            boolean open = Modifier.isPublic(method.getModifiers());
            refuse(!open && !Modifier.isPrivate(method.getModifiers()), "rule 1: " + method);
            if (open) {
                publicNames.add(method.getName());
            }
        }
        fields(BarsTogether.class, true);
        executables(BarsTogether.class, publicNames);
        for (Class<?> one : inside) {
            refuse(!Modifier.isStatic(one.getModifiers()), "rule 2: " + one);
            fields(one, false);
            executables(one, publicNames);
        }
    }

    private static void fields(Class<?> of, boolean allPrivate) {
        int own = 0;
        for (Field field : of.getDeclaredFields()) {
            boolean constant = Modifier.isStatic(field.getModifiers());
            refuse(constant && !Modifier.isFinal(field.getModifiers()), "rule 5: " + field);
            refuse(allPrivate && !Modifier.isPrivate(field.getModifiers()), "rule 1: " + field);
            own += constant ? 0 : 1;
        }
        refuse(own > 20, "rule 11: " + own + " fields in " + of);
    }

    private static void executables(Class<?> of, Set<String> publicNames) {
        List<Executable> all = new ArrayList<>(Arrays.asList(of.getDeclaredMethods()));
        for (Constructor<?> constructor : of.getDeclaredConstructors()) {
            all.add(constructor);
        }
        for (Executable one : all) {
            refuse(one.getParameterCount() > 7, "rule 11: parameters of " + one);
            boolean hides = !Modifier.isPublic(one.getModifiers()) && publicNames.contains(one.getName());
            refuse(hides, "rule 1: a private method with a public name: " + one);
        }
    }

    private static void methodLengths(String code) {
        String[] lines = code.split("\n");
        int begun = -1;
        for (int i = 0; i < lines.length; i++) {
            if (lines[i].matches("( {4}| {8})(public|private|static|int|long|boolean|void|[A-Z]\\w*)\\b[^;=]*\\) \\{")) {
                begun = i;
            } else if (begun >= 0 && lines[i].equals(lines[begun].replaceAll("\\S.*", "}"))) {
                refuse(i - begun > 60, "rule 11: long method " + lines[begun].trim());
                begun = -1;
            }
        }
    }
}
