import java.io.IOException;
import java.lang.reflect.Method;
import java.nio.charset.StandardCharsets;
import java.nio.file.Files;
import java.nio.file.Path;
import java.util.List;
import java.util.Set;
import java.util.TreeSet;
import java.util.regex.Matcher;
import java.util.regex.Pattern;
import java.util.stream.Stream;

/** README.md: what it says of answers is what the class answers; it names every call and every test. */
public final class ReadmeTests {
    private static final Pattern LINE = Pattern.compile("x\\.(\\w+)\\(([^)]*)\\); *// (-?\\d+): \\S.*");
    private static final Pattern TEXT_ROW = Pattern.compile("\\| `([a-z0-9;]*)` \\| (-?\\d+) \\|.*");
    private static final Pattern REFUSAL_ROW = Pattern.compile("\\| (-?\\d+) \\|.*\\| `(\\w+)\\(([^)]*)\\)` \\|");
    private static final Pattern CALL_ROW = Pattern.compile("\\| `(\\w+\\([a-z, ]*\\))` \\| .*");

    private ReadmeTests() {
    }

    /** The document, README.md, .ci/run and where the tests are. */
    public static void main(String[] args) throws Exception {
        List<String> readme = Files.readAllLines(Path.of(args[1]), StandardCharsets.UTF_8);
        runs(readme);
        texts(readme);
        refusals(readme);
        calls(readme, Files.readString(Path.of(args[0]), StandardCharsets.UTF_8));
        tests(String.join("\n", readme), Files.readString(Path.of(args[2]), StandardCharsets.UTF_8), Path.of(args[3]));
        Due.end("ReadmeTests");
    }

    /** Every line of every run of calls, each run on a new object. */
    private static void runs(List<String> readme) throws Exception {
        VolumeInFivePasses x = null;
        boolean isRun = false;
        int lines = 0;
        for (String line : readme) {
            if (line.startsWith("```")) {
                isRun = line.equals("```java");
                x = null;
            } else if (isRun && x == null) {
                Due.is("the first line of a run", line, "VolumeInFivePasses x = new VolumeInFivePasses();");
                x = new VolumeInFivePasses();
            } else if (isRun) {
                Matcher m = LINE.matcher(line);
                Due.is("read: " + line, m.matches() ? 1 : 0, 1);
                if (m.matches()) {
                    Due.is("README: " + line, answer(x, m.group(1), m.group(2)), Long.parseLong(m.group(3)));
                    lines++;
                }
            }
        }
        Due.is("enough lines of runs", lines >= 48 ? 1 : 0, 1);
    }

    private static void texts(List<String> readme) {
        int rows = 0;
        for (String line : readme) {
            Matcher m = TEXT_ROW.matcher(line);
            if (m.matches()) {
                VolumeInFivePasses x = new VolumeInFivePasses();
                Due.is("README: " + line, Told.tell(x, m.group(1)), Long.parseLong(m.group(2)));
                Due.is("README: no letters behind " + line, x.count(7), 0);
                rows++;
            }
        }
        Due.is("rows of texts", rows, 6);
    }

    /** On a new object; and each is counted, once, where README.md says. */
    private static void refusals(List<String> readme) throws Exception {
        int rows = 0;
        for (String line : readme) {
            Matcher m = REFUSAL_ROW.matcher(line);
            if (m.matches()) {
                VolumeInFivePasses x = new VolumeInFivePasses();
                long due = Long.parseLong(m.group(1));
                Due.is("README: " + line, answer(x, m.group(2), m.group(3)), due);
                long refusal = due < 0 ? due : 4000000000000000000L - due;
                for (int what = 11; what <= 16; what++) {
                    Due.is("README: count(" + what + ") behind " + line, x.count(what), 10 - what == refusal ? 1 : 0);
                }
                rows++;
            }
        }
        Due.is("rows of refusals", rows, 8);
    }

    private static void calls(List<String> readme, String document) {
        Set<String> told = new TreeSet<>();
        for (String line : readme) {
            Matcher m = CALL_ROW.matcher(line);
            if (m.matches()) {
                Due.is("told once is " + m.group(1), told.add(m.group(1)) ? 1 : 0, 1);
            }
        }
        Set<String> due = new TreeSet<>();
        Matcher m = Pattern.compile("^    public (?:int|long) (\\w+\\([^)]*\\));$", Pattern.MULTILINE).matcher(document);
        while (m.find()) {
            due.add(m.group(1).replaceAll("(int|long) ", ""));
        }
        Due.is("how many calls the face has", due.size(), 38);
        Due.is("README: the calls", told.toString(), due.toString());
    }

    /** A test that is not run, or not told of, would be of no use. */
    private static void tests(String readme, String script, Path directory) throws IOException {
        int found = 0;
        try (Stream<Path> files = Files.list(directory)) {
            for (Path file : files.toList()) {
                String name = file.getFileName().toString().replace(".java", "");
                if (name.endsWith("Tests")) {
                    Due.is("README tells of " + name, readme.contains("`" + name + "`") ? 1 : 0, 1);
                    Due.is(".ci/run runs " + name, Pattern.compile("\\b" + name + "\\b").matcher(script).find() ? 1 : 0, 1);
                    found++;
                }
            }
        }
        Due.is("enough tests", found >= 8 ? 1 : 0, 1);
    }

    private static long answer(VolumeInFivePasses x, String name, String told) throws Exception {
        String[] numbers = told.isEmpty() ? new String[0] : told.split(", ");
        Class<?>[] types = new Class<?>[numbers.length];
        Object[] values = new Object[numbers.length];
        for (int i = 0; i < numbers.length; i++) {
            types[i] = int.class;
            values[i] = Integer.parseInt(numbers[i]);
        }
        Method call = VolumeInFivePasses.class.getMethod(name, types);
        return ((Number) call.invoke(x, values)).longValue();
    }
}
