import java.io.IOException;
import java.lang.reflect.Method;
import java.lang.reflect.Modifier;
import java.nio.file.Files;
import java.nio.file.Path;
import java.util.ArrayList;
import java.util.HashMap;
import java.util.List;
import java.util.Map;
import java.util.Random;
import java.util.Set;
import java.util.TreeMap;
import java.util.TreeSet;
import java.util.regex.Matcher;
import java.util.regex.Pattern;

/** What README.md says is so: its rows of calls with their answers, its tables of calls, ERRORS and tests. */
public final class ReadmeTest {
    private static final Due DUE = new Due("ReadmeTest");
    private static final Pattern BLOCK = Pattern.compile("```java\n(.*?)```", Pattern.DOTALL);
    private static final String NEW = "HandOverHorse x = new HandOverHorse();";
    private static final Pattern CALL = Pattern.compile("(?:int (\\w+) = )?x\\.(\\w+)\\((.*?)\\); +// (-?\\d+)(?::.*)?");
    private static final Pattern ROW = Pattern.compile("\\| `(\\w+)\\((.*?)\\)` \\| .+? \\| ([A-Z, ]*)\\|");
    private static final Pattern ERROR = Pattern.compile("\\| (-\\d+) \\| ([A-Z]+) \\| .+ \\|");
    private static final String[] ERRORS = {"BEYOND", "NONE", "STATE", "FULL", "KIND"};
    private static final int[] NUMBERS = {-1, 0, 1, 2, 3, 4, 5, 6, 7, 8, 12, 16, 32, 41, 70, 100, 5000, 10000};

    private static final Map<String, Method> METHODS = new TreeMap<>();

    public static void main(String[] args) throws Exception {
        for (Method method : HandOverHorse.class.getDeclaredMethods()) {
            if (Modifier.isPublic(method.getModifiers())) {
                METHODS.put(method.getName(), method);
            }
        }
        String page = Files.readString(Path.of("README.md"));
        examples(page);
        errors(page);
        calls(page);
        tests(page);
        DUE.end();
    }

    private static void examples(String page) throws Exception {
        Matcher block = BLOCK.matcher(page);
        int blocks = 0;
        while (block.find()) {
            blocks++;
            example(block.group(1));
        }
        DUE.is("examples", blocks, 3);
    }

    private static void example(String lines) throws Exception {
        HandOverHorse x = new HandOverHorse();
        Map<String, Integer> names = new HashMap<>();
        DUE.that("an example begins with a new object", lines.startsWith(NEW + "\n"));
        for (String line : lines.substring(NEW.length() + 1).split("\n")) {
            Matcher call = CALL.matcher(line);
            boolean known = call.matches() && METHODS.containsKey(call.group(2));
            DUE.that("a call and what it answers: " + line, known);
            if (!known) {
                continue;
            }
            Method method = METHODS.get(call.group(2));
            int got = (int) method.invoke(x, values(method, call.group(3), names));
            DUE.is(line, got, Integer.parseInt(call.group(4)));
            if (call.group(1) != null) {
                names.put(call.group(1), got);
            }
        }
    }

    private static Object[] values(Method method, String told, Map<String, Integer> names) {
        String[] parts = told.isEmpty() ? new String[0] : told.split(", ");
        Object[] values = new Object[parts.length];
        for (int i = 0; i < parts.length; i++) {
            if (method.getParameterTypes()[i] == long.class) {
                values[i] = Long.decode(parts[i].replace("L", ""));
            } else {
                values[i] = names.containsKey(parts[i]) ? names.get(parts[i]) : Integer.valueOf(parts[i]);
            }
        }
        return values;
    }

    private static void errors(String page) {
        Matcher row = ERROR.matcher(page);
        int rows = 0;
        while (row.find()) {
            rows++;
            DUE.that(row.group(), rows <= 5 && row.group(2).equals(ERRORS[rows - 1]));
            DUE.is(row.group(2), Integer.parseInt(row.group(1)), Due.LOW - rows);
        }
        DUE.is("ERRORS", rows, 5);
    }

    private static void calls(String page) throws Exception {
        Map<String, Set<String>> found = errorsFound();
        Matcher row = ROW.matcher(page);
        List<String> told = new ArrayList<>();
        while (row.find()) {
            String name = row.group(1);
            told.add(name);
            DUE.that(name + " is a call", METHODS.containsKey(name));
            if (METHODS.containsKey(name)) {
                int parameters = row.group(2).isEmpty() ? 0 : row.group(2).split(", ").length;
                DUE.is("parameters of " + name, parameters, METHODS.get(name).getParameterCount());
                Set<String> said = new TreeSet<>(List.of(row.group(3).trim().split(", ")));
                said.remove("");
                DUE.that(name + " answers " + found.get(name) + ", the page says " + said, said.equals(found.get(name)));
            }
        }
        DUE.is("calls told", told.size(), METHODS.size());
        DUE.is("each once", new TreeSet<>(told).size(), METHODS.size());
    }

    /** The ERRORS that each call was found to answer, by what told() tells ahead of it and behind. */
    private static Map<String, Set<String>> errorsFound() throws Exception {
        Random draws = new Random(13);
        List<Method> methods = new ArrayList<>(METHODS.values());
        Map<String, Set<String>> found = new TreeMap<>();
        for (Method method : methods) {
            found.put(method.getName(), new TreeSet<>());
        }
        for (int run = 0; run < 600; run++) {
            HandOverHorse x = run % 2 == 0 ? new HandOverHorse() : full(run % 3);
            for (int i = 0; i < 120; i++) {
                Method method = methods.get(draws.nextInt(methods.size()));
                Object[] with = new Object[method.getParameterCount()];
                for (int k = 0; k < with.length; k++) {
                    int v = NUMBERS[draws.nextInt(draws.nextBoolean() ? 4 : NUMBERS.length)];
                    with[k] = method.getParameterTypes()[k] == long.class ? (Object) Long.valueOf(v) : Integer.valueOf(v);
                }
                int[] ahead = told(x);
                method.invoke(x, with);
                int[] behind = told(x);
                for (int k = 0; k < 5; k++) {
                    if (behind[k] > ahead[k]) {
                        found.get(method.getName()).add(ERRORS[k]);
                    }
                }
            }
        }
        return found;
    }

    private static int[] told(HandOverHorse x) {
        return new int[] {x.told(1), x.told(2), x.told(3), x.told(4), x.told(5)};
    }

    /** A wall to which nearly nothing more may come; with round 1 its LOOKS go round. */
    private static HandOverHorse full(int round) {
        HandOverHorse x = Walls.chain(8);
        for (int i = 7; i < 12; i++) {
            x.over(round == 1 ? 0 : 7, round == 1 ? 7 : 0, 50);
        }
        for (int i = 0; i < 19; i++) {
            x.tell(i);
        }
        Due.feed(x, "1".repeat(48));
        Walls.row(x, 0, 8, 1, 0, 50);
        Walls.row(x, 1, 16, 1, 0, 50);
        return x;
    }

    private static void tests(String page) throws IOException {
        List<Path> files = new ArrayList<>();
        try (var found = Files.newDirectoryStream(Path.of("src/test/java"), "*Test.java")) {
            found.forEach(files::add);
        }
        Set<String> there = new TreeSet<>();
        for (Path file : files) {
            there.add(file.getFileName().toString().replace(".java", ""));
        }
        Set<String> told = new TreeSet<>();
        Matcher name = Pattern.compile("\\b[A-Z]\\w*Test\\b").matcher(page.substring(page.indexOf("| test | promises |")));
        while (name.find()) {
            told.add(name.group());
        }
        DUE.that("tests there " + there + ", told " + told, there.equals(told));
    }
}
