import java.io.IOException;
import java.lang.reflect.Method;
import java.nio.file.DirectoryStream;
import java.nio.file.Files;
import java.nio.file.Path;
import java.util.ArrayList;
import java.util.LinkedHashMap;
import java.util.List;
import java.util.Map;
import java.util.TreeSet;
import java.util.regex.Matcher;
import java.util.regex.Pattern;

// README.md is true: its runs answer as it tells, and it names every call by its promise, every finding, every test.
public final class ReadmeTest {
    private static final Pattern STEP = Pattern.compile("x\\.(\\w+)\\(([^)]*)\\);\\s*// (-?\\d+):.*");
    private static final String MADE = "JudgedDeposits x = new JudgedDeposits();";
    private static int wrong = 0;

    private static void hold(String what, boolean so) {
        if (!so) {
            wrong++;
            System.out.println("not so: " + what);
        }
    }

    private static Method named(String name) {
        for (Method m : JudgedDeposits.class.getDeclaredMethods()) if (m.getName().equals(name)) return m;
        throw new IllegalArgumentException("no call " + name);
    }

    private static long answer(JudgedDeposits x, String name, String numbers) throws Exception {
        List<Object> values = new ArrayList<>();
        if (!numbers.isBlank()) for (String number : numbers.split(",")) values.add(Integer.decode(number.trim()));
        return ((Number) named(name).invoke(x, values.toArray())).longValue();
    }

    private static void runs(String page) throws Exception {
        Matcher block = Pattern.compile("(?s)```java\n(.*?)```").matcher(page);
        int runs = 0;
        while (block.find()) {
            runs++;
            String[] lines = block.group(1).split("\n");
            hold("a run begins with a new object", lines[0].equals(MADE));
            JudgedDeposits x = new JudgedDeposits();
            for (int i = 1; i < lines.length; i++) {
                Matcher step = STEP.matcher(lines[i]);
                hold("a call and its answer: " + lines[i], step.matches());
                if (!step.matches()) continue;
                long got = answer(x, step.group(1), step.group(2));
                hold(lines[i] + " (it answered " + got + ")", got == Long.parseLong(step.group(3)));
            }
        }
        hold("there are runs", runs > 0);
    }

    // The calls of the document with the names of their numbers: of(thing, what); and the number of their promise.
    private static Map<String, Integer> promised() throws IOException {
        Map<String, Integer> calls = new LinkedHashMap<>();
        int promise = 0;
        for (String line : Files.readAllLines(Path.of("../shared/DOC.md"))) {
            Matcher heading = Pattern.compile("## Promise (\\d+): .*").matcher(line);
            if (heading.matches()) promise = Integer.parseInt(heading.group(1));
            Matcher face = Pattern.compile("`(?:(?:int|long) )?(\\w+\\([^)]*\\))`: .*").matcher(line);
            if (promise > 0 && face.matches()) calls.put(face.group(1).replace("int ", ""), promise);
        }
        return calls;
    }

    private static void calls(String page) throws IOException {
        Map<String, Integer> told = new LinkedHashMap<>();
        Matcher row = Pattern.compile("(?m)^\\| (`[^|]*) \\| ([\\d, ]+) \\| .*$").matcher(page);
        while (row.find()) {
            Matcher call = Pattern.compile("`([^`]*)`").matcher(row.group(1));
            for (String promise : row.group(2).split(", ")) {
                hold("a call for promise " + promise, call.find());
                told.put(call.group(1), Integer.parseInt(promise));
            }
            hold("a promise for each call of " + row.group(1), !call.find());
        }
        Map<String, Integer> promised = promised();
        hold("41 promises: " + promised, promised.size() == 41);
        hold("the calls of README.md " + told + " are those of the document " + promised, told.equals(promised));
    }

    private static void findings(String page) {
        String[] names = {"BEYOND", "FULL", "KIND", "NONE", "STATE", "MISSING", "SIZE"};
        for (int i = 0; i < names.length; i++) {
            hold(names[i], page.contains("\n| " + names[i] + " | " + (-1000001 - i) + " | " + i + " | "));
        }
    }

    private static void tests(String page) throws IOException {
        TreeSet<String> there = new TreeSet<>();
        try (DirectoryStream<Path> files = Files.newDirectoryStream(Path.of("src/test/java"), "*.java")) {
            for (Path file : files) there.add(file.getFileName().toString().replace(".java", ""));
        }
        TreeSet<String> told = new TreeSet<>();
        Matcher line = Pattern.compile("(?m)^- ((?:`\\w+`(?:, )?)+): ").matcher(page);
        while (line.find()) for (String name : line.group(1).split(", ")) told.add(name.replace("`", ""));
        hold("the tests of README.md " + told + " are those that are there " + there, told.equals(there));
        hold("how tests are run", page.contains("```sh\n.ci/run\n```") && Files.isExecutable(Path.of(".ci/run")));
    }

    public static void main(String[] args) throws Exception {
        String page = Files.readString(Path.of("README.md"));
        runs(page);
        calls(page);
        findings(page);
        tests(page);
        System.out.println(wrong == 0 ? "README.md is as it stands" : wrong + " are not so");
        if (wrong != 0) System.exit(1);
    }
}
