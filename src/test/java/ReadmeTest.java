import java.lang.reflect.Method;
import java.lang.reflect.Modifier;
import java.nio.file.Files;
import java.nio.file.Path;
import java.util.Map;
import java.util.Set;
import java.util.TreeMap;
import java.util.TreeSet;
import java.util.regex.Matcher;
import java.util.regex.Pattern;
import java.util.stream.Stream;

/** README.md: each call that it shows answers what it shows, each one of the face is shown, and each test is named. */
public final class ReadmeTest {
    private static final Path PAGE = Path.of("README.md");
    private static final Path TESTS = Path.of("src/test/java");
    private static final Pattern BLOCK = Pattern.compile("```java\n(.*?)```", Pattern.DOTALL);
    private static final Pattern NEW = Pattern.compile("BarsTogether x = new BarsTogether\\(\\);");
    private static final Pattern CALL = Pattern.compile("x\\.(\\w+)\\(([^()]*)\\); +// (-?[0-9]+)(: .+)?");
    private static final Pattern ERROR = Pattern.compile("\\| ([1-5]) \\| ([A-Z]+) +\\| (-[0-9]+) \\|");
    private static final String[] ERRORS = {"", "BEYOND", "NONE", "STATE", "FULL", "KIND"};
    private static final int MOST_CALLS = 512;

    private final Map<String, Method> face = new TreeMap<>();
    private final Set<String> shown = new TreeSet<>();
    private BarsTogether x;
    private int calls;
    private int asked;
    private int wrong;

    public static void main(String[] args) throws Exception {
        ReadmeTest test = new ReadmeTest();
        String page = Files.readString(PAGE);
        test.readFace();
        test.callAll(page);
        test.askForErrors(page);
        test.askForTests(page);
        if (test.wrong > 0) {
            System.exit(1);
        }
        System.out.println(test.asked + " answers of README.md are as due");
    }

    private void refuse(boolean bad, String why) {
        if (bad) {
            wrong++;
            System.out.println("README.md: " + why);
        }
    }

    private void readFace() {
        for (Method method : BarsTogether.class.getDeclaredMethods()) {
            if (Modifier.isPublic(method.getModifiers())) {
                face.put(method.getName(), method);
            }
        }
    }

    private void callAll(String page) throws Exception {
        Matcher block = BLOCK.matcher(page);
        while (block.find()) {
            for (String row : block.group(1).split("\n")) {
                takeRow(row.trim());
            }
        }
        for (String name : face.keySet()) {
            refuse(!shown.contains(name), "no call of " + name + "() is shown");
        }
    }

    private void takeRow(String row) throws Exception {
        Matcher call = CALL.matcher(row);
        if (NEW.matcher(row).matches()) {
            x = new BarsTogether();
            calls = 0;
        } else if (x != null && call.matches() && face.containsKey(call.group(1))) {
            compare(row, call);
        } else {
            refuse(!row.isEmpty(), "neither a new object nor a call with its answer: " + row);
        }
    }

    private void compare(String row, Matcher call) throws Exception {
        Method method = face.get(call.group(1));
        String[] told = call.group(2).isEmpty() ? new String[0] : call.group(2).split(", ");
        if (told.length != method.getParameterCount()) {
            refuse(true, "the call takes " + method.getParameterCount() + " numbers: " + row);
            return;
        }
        Object[] numbers = new Object[told.length];
        for (int i = 0; i < told.length; i++) {
            boolean isLong = method.getParameterTypes()[i] == long.class;
            refuse(isLong != told[i].endsWith("L"), "a long is told with an L: " + row);
            long number = Long.decode(told[i].replaceFirst("L$", ""));
            numbers[i] = isLong ? (Object) number : (Object) Math.toIntExact(number);
        }
        long got = ((Number) method.invoke(x, numbers)).longValue();
        refuse(got != Long.parseLong(call.group(3)), "the answer is " + got + ": " + row);
        shown.add(call.group(1));
        asked++;
        calls++;
        refuse(calls > MOST_CALLS, "more calls than an object is used for: " + row);
    }

    private void askForErrors(String page) {
        Matcher error = ERROR.matcher(page);
        int rows = 0;
        while (error.find()) {
            rows++;
            int k = Integer.parseInt(error.group(1));
            boolean asDue = error.group(2).equals(ERRORS[k]) && Integer.parseInt(error.group(3)) == -1000000 - k;
            refuse(k != rows || !asDue, "an ERROR is told wrongly: " + error.group());
        }
        refuse(rows != ERRORS.length - 1, "it tells " + rows + " ERRORS");
    }

    private void askForTests(String page) throws Exception {
        refuse(!page.contains("\n    .ci/run\n"), "it doesn't say how to run the tests");
        try (Stream<Path> files = Files.list(TESTS)) {
            files.map(file -> file.getFileName().toString()).filter(name -> name.endsWith("Test.java"))
                    .map(name -> name.substring(0, name.length() - ".java".length())).sorted()
                    .forEach(name -> refuse(!page.contains("\n- `" + name + "`: "), name + " isn't told of"));
        }
    }
}
