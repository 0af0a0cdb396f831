import java.lang.reflect.Method;
import java.lang.reflect.Modifier;
import java.lang.reflect.Parameter;
import java.util.ArrayList;
import java.util.Arrays;
import java.util.Comparator;
import java.util.HashMap;
import java.util.List;
import java.util.Map;
import java.util.Random;

/** Long runs of calls, drawn from fixed seeds, on BarsTogether and on PlainBars: all answers must be alike. */
public final class ModelTest {
    private static final int RUNS = 120;
    private static final int CALLS = 512;

    private final Random dice;
    private final BarsTogether bars = new BarsTogether();
    private final PlainBars plain = new PlainBars();
    private final List<String> said = new ArrayList<>();
    private final Map<String, Integer> answers;
    private int calls;

    private ModelTest(long seed, Map<String, Integer> answers) {
        dice = new Random(seed);
        this.answers = answers;
    }

    public static void main(String[] args) throws Exception {
        int runs = args.length > 0 ? Integer.parseInt(args[0]) : RUNS;
        long seed = args.length > 1 ? Long.parseLong(args[1]) : 1000;
        Map<String, Integer> answers = new HashMap<>();
        for (int run = 0; run < runs; run++) {
            if (!new ModelTest(seed + run, answers).runsAlike()) {
                System.exit(1);
            }
        }
        if (!usesAll(answers)) {
            System.exit(1);
        }
        System.out.println(runs + " runs are as the plain ones");
    }

    /** A run that never answers well, or never an ERROR, would compare nothing. */
    private static boolean usesAll(Map<String, Integer> answers) {
        boolean all = true;
        for (Method method : face()) {
            for (String kind : new String[] {" well", " error"}) {
                boolean never = kind.equals(" error") && Arrays.asList("seed", "image").contains(method.getName());
                if (!never && answers.getOrDefault(method.getName() + kind, 0) < 20) {
                    System.out.println("too few runs of " + method.getName() + kind);
                    all = false;
                }
            }
        }
        return all;
    }

    private static Method[] face() {
        Method[] all = Arrays.stream(BarsTogether.class.getDeclaredMethods())
                .filter(m -> Modifier.isPublic(m.getModifiers())).toArray(Method[]::new);
        Arrays.sort(all, Comparator.comparing(Method::getName));
        return all;
    }

    private boolean runsAlike() throws Exception {
        Method[] face = face();
        int start = dice.nextInt(10);
        for (int i = 0; i < start && alike("bar", dice.nextInt(3)); i++) {
            dice.nextInt();
        }
        boolean busy = dice.nextInt(3) > 0;
        if (busy && !furnish()) {
            return false;
        }
        while (calls < CALLS) {
            int what = dice.nextInt(20);
            boolean good;
            if (what == 0 && dice.nextInt(4) == 0) {
                good = tellMany();
            } else if (what == 0) {
                good = feedText();
            } else if (what == 1) {
                good = tellDue();
            } else if (what == 2 && dice.nextInt(4) == 0) {
                good = fillSheets();
            } else {
                Method method = face[dice.nextInt(face.length)];
                boolean rare = method.getName().equals("restore") || method.getName().equals("made");
                good = rare && dice.nextInt(4) > 0 || alike(method.getName(), argumentsFor(method));
            }
            if (!good) {
                return false;
            }
        }
        return true;
    }

    private boolean furnish() throws Exception {
        boolean good = alike("seed", dice.nextInt());
        for (int i = 0; i < 4; i++) {
            good = good && alike("made", dice.nextInt(3), 1 + dice.nextInt(12));
            good = good && alike("both", 10 * dice.nextInt(3) + dice.nextInt(3), 1 + dice.nextInt(6));
            good = good && alike("counting", dice.nextInt(8), 10 * dice.nextInt(3) + dice.nextInt(3),
                    dice.nextInt(500), dice.nextInt(51), 1 + dice.nextInt(200));
            good = good && alike("line", dice.nextInt(1000));
        }
        return good;
    }

    private Object[] argumentsFor(Method method) {
        Parameter[] parameters = method.getParameters();
        Object[] arguments = new Object[parameters.length];
        for (int i = 0; i < parameters.length; i++) {
            arguments[i] = parameters[i].getType() == long.class ? (Object) dice.nextLong()
                    : (Object) argument(method.getName(), parameters[i].getName(), i);
        }
        if (Arrays.asList("stars", "tried").contains(method.getName()) && dice.nextInt(5) > 0) {
            arguments[3] = (int) arguments[2] + dice.nextInt(42) - 1;
        }
        return arguments;
    }

    private int argument(String method, String name, int place) {
        switch (dice.nextInt(60)) {
            case 0: return Integer.MIN_VALUE;
            case 1: return Integer.MAX_VALUE;
            case 2: return dice.nextInt();
            case 3: return -1;
            default: break;
        }
        switch (name) {
            case "house": return dice.nextInt(dice.nextInt(10) == 0 ? 4 : 3);
            case "bar": return dice.nextInt(7);
            case "ring": return dice.nextInt(dice.nextInt(4) == 0 ? 98 : 30);
            case "tenth": return near(0, 9999, dice.nextInt(3) == 0 ? 400 : 2400);
            case "height": return near(1, 999, 999);
            case "ab": return dice.nextInt(4) > 0 ? 10 * dice.nextInt(3) + dice.nextInt(3) : dice.nextInt(80) - 5;
            case "l": return method.equals("gone") ? near(1, 999, dice.nextInt(2) == 0 ? 3 : 999) : near(0, 999, 700);
            case "lw": return 1000 * near(0, 50, 50) + near(0, 999, 999);
            case "w": return near(0, 50, 50);
            case "d": return method.equals("meets") ? near(-9999, 9999, 0) + dice.nextInt(5) * dice.nextInt(300) : near(1, 999, 300);
            case "e": return near(0, 400, 400);
            case "period": case "from": case "to": return near(12, 999, dice.nextInt(2) == 0 ? 100 : 999);
            case "use": return dice.nextInt(10);
            case "law": case "one": case "other": return dice.nextInt(method.equals("move") ? 5 : 7);
            case "year": return dice.nextInt(9);
            case "counting": return dice.nextInt(dice.nextInt(3) == 0 ? 13 : 5);
            case "kind": return dice.nextInt(9);
            case "m": return method.equals("gone") ? near(1, 99999, 99999) : near(1, 40, 12);
            case "x": return method.equals("ahead") ? near(0, 100, 100) : dice.nextInt(2000) - 1000;
            case "part": return dice.nextInt(3) - dice.nextInt(2);
            case "sheet": return dice.nextInt(5);
            case "bits": return new int[] {0, 8, 16, 16, 16, 32, 32, 7, 64}[dice.nextInt(9)];
            case "n": return numberFor(method);
            case "i": case "j": return dice.nextInt(dice.nextInt(4) == 0 ? 45 : method.equals("move") ? 4 : 8);
            case "k": return dice.nextInt(7);
            case "what": return dice.nextInt(method.equals("count") ? 11 : method.equals("hours") ? 3 : 6);
            case "act": return dice.nextInt(5);
            case "sense": return near(1, 999, 999);
            case "tenths": return near(1, 9999, 9999);
            case "v": return valueFor(method);
            default: return dice.nextInt(12) - 1;
        }
    }

    private int numberFor(String method) {
        switch (method) {
            case "made": return dice.nextInt(22);
            case "both": return dice.nextInt(12);
            case "feed": return dice.nextInt(10);
            case "sheet": return dice.nextInt(44) - 2;
            case "move": return dice.nextInt(7) - 1;
            default: return dice.nextInt(12);
        }
    }

    private int valueFor(String method) {
        switch (method) {
            case "clock": return near(-999, 999, 60);
            case "weight": return dice.nextInt(102);
            case "put": return dice.nextInt(5) == 0 ? dice.nextInt() : dice.nextInt(1000);
            default: return dice.nextInt(40);
        }
    }

    /** Mostly from least up to usual; now and then at an edge, or one beyond it. */
    private int near(int least, int most, int usual) {
        switch (dice.nextInt(24)) {
            case 0: return least;
            case 1: return most;
            case 2: return least - 1;
            case 3: return most + 1;
            case 4: return least + dice.nextInt(most - least + 1);
            default: return Math.max(least, 0) + dice.nextInt(Math.max(usual - Math.max(least, 0), 0) + 1);
        }
    }

    private boolean feedText() throws Exception {
        int use = dice.nextInt(9);
        StringBuilder text = new StringBuilder();
        sentence(text, use < 3 ? "hgtb" : "ny", 0);
        int worse = dice.nextInt(3);
        for (int i = 0; i < worse; i++) {
            if (text.length() > 0 && dice.nextInt(2) == 0) {
                text.setCharAt(dice.nextInt(text.length()), "hgtbny0123456789!()<=>+-*/%|& x".charAt(dice.nextInt(31)));
            }
        }
        if (text.length() > 50) {
            text.setLength(50);
        }
        int at = 0;
        while (at < text.length()) {
            int n = Math.min(1 + dice.nextInt(8), text.length() - at);
            long word = dice.nextLong();
            for (int i = 0; i < n; i++) {
                word = word & ~(255L << (8 * i)) | (long) text.charAt(at + i) << (8 * i);
            }
            if (!alike("feed", word, n)) {
                return false;
            }
            at += n;
        }
        return alike("text", dice.nextInt(20) == 0 ? 9 : use) && (use >= 3 || alike("counts", dice.nextInt(10), 0))
                && (use < 3 || alike("law", use - 3, dice.nextInt(100), dice.nextInt(8)));
    }

    private void sentence(StringBuilder text, String names, int deep) {
        int parts = 1 + dice.nextInt(4);
        for (int i = 0; i < parts; i++) {
            if (i > 0) {
                text.append("<=>+-+-*/%*/%|&".charAt(dice.nextInt(15)));
            }
            while (dice.nextInt(6) == 0) {
                text.append('!');
            }
            if (dice.nextInt(4) == 0 && deep < 6) {
                text.append('(');
                sentence(text, names, deep + 1);
                text.append(')');
            } else if (dice.nextInt(2) == 0) {
                text.append(names.charAt(dice.nextInt(names.length())));
            } else {
                text.append(dice.nextInt(8) == 0 ? dice.nextInt(20000) : dice.nextInt(300));
            }
        }
    }

    private boolean fillSheets() throws Exception {
        int bits = 8 << dice.nextInt(3);
        boolean good = true;
        for (int sheet = 0; sheet < 3 && good; sheet++) {
            int n = 3 + dice.nextInt(38);
            good = alike("sheet", sheet, bits, n);
            for (int i = 0; i < 6 && good; i++) {
                good = alike("put", sheet, i, 1 + dice.nextInt(120));
            }
        }
        return good && alike("move", 0, dice.nextInt(3), dice.nextInt(3), dice.nextInt(4), dice.nextInt(5))
                && alike("rows", dice.nextInt(3), dice.nextInt(3));
    }

    private boolean tellMany() throws Exception {
        boolean good = true;
        for (int i = 0; i < 22 && good; i++) {
            good = alike("tell", dice.nextInt(30));
        }
        return good && alike("check", dice.nextInt(6));
    }

    /** Tells what is due for a COUNTING (found by asking the plain one), sometimes a little off. */
    private boolean tellDue() throws Exception {
        if (plain.count(7) > 0 && !alike("check", -1)) {
            return false;
        }
        int counting = dice.nextInt(4);
        int ring = dice.nextInt(30);
        List<Integer> found = new ArrayList<>();
        for (int i = 0; i < 20; i++) {
            found.forEach(plain::tell);
            found.forEach(bars::tell);
            int place = plain.check(counting);
            if (bars.check(counting) != place) {
                System.out.println("check differs");
                return false;
            }
            if (place != found.size() + 1) {
                break;
            }
            int next = nextDue(counting, found);
            if (next < 0) {
                break;
            }
            found.add(next);
        }
        if (dice.nextInt(4) == 0) {
            found.add(dice.nextInt(Math.max(1, found.size())), ring);
        }
        for (int v : found) {
            if (!alike("tell", v)) {
                return false;
            }
        }
        return alike("check", counting);
    }

    private int nextDue(int counting, List<Integer> found) {
        for (int ring = 0; ring < plain.count(1); ring++) {
            found.forEach(plain::tell);
            found.forEach(bars::tell);
            plain.tell(ring);
            bars.tell(ring);
            int place = plain.check(counting);
            bars.check(counting);
            if (place == 0 || place == found.size() + 2) {
                return ring;
            }
        }
        return -1;
    }

    private boolean alike(String name, Object... arguments) throws Exception {
        calls++;
        long got = call(bars, name, arguments);
        long due = call(plain, name, arguments);
        String row = name + Arrays.toString(arguments) + " answered " + got;
        said.add(row);
        boolean error = due <= -1000001 && due >= -1000005;
        answers.merge(name + (error ? " error" : " well"), 1, Integer::sum);
        if (got == due) {
            return true;
        }
        said.forEach(System.out::println);
        System.out.println("due is " + due);
        return false;
    }

    private static final Map<String, Method> METHODS = new HashMap<>();

    private static long call(Object on, String name, Object[] arguments) throws Exception {
        String key = on.getClass().getName() + "." + name;
        Method method = METHODS.get(key);
        if (method == null) {
            for (Method one : on.getClass().getDeclaredMethods()) {
                if (one.getName().equals(name) && Modifier.isPublic(one.getModifiers())) {
                    method = one;
                    method.setAccessible(true);
                    METHODS.put(key, method);
                }
            }
        }
        return ((Number) method.invoke(on, arguments)).longValue();
    }
}
