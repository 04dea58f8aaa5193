import java.lang.reflect.Method;
import java.lang.reflect.Modifier;
import java.nio.file.Files;
import java.nio.file.Path;
import java.util.TreeSet;
import java.util.regex.Matcher;
import java.util.regex.Pattern;

/** The README's example, row by row, answers what it says there; and each call of the class stands in the README. */
public final class ReadmeTest {
    private static final Tape T = new Tape();
    private static final Pattern TELL = Pattern.compile("tell\\(bench, \"([^\"]*)\"\\);");
    private static final Pattern CALL = Pattern.compile("bench\\.(\\w+)\\(([^)]*)\\); +// (-?\\d+|true|false)(:.*)?");

    public static void main(String[] args) throws Exception {
        String readme = Files.readString(Path.of("README.md"));
        TreeSet<String> called = example(readme);
        tellAsThere(readme);
        for (Method method : ClauseBench.class.getDeclaredMethods()) {
            if (Modifier.isPublic(method.getModifiers())) {
                String name = method.getName();
                T.due("the README's table names " + name, readme.contains("`" + name + "("), true);
                boolean fed = name.equals("feed") || name.equals("end");
                T.due("the README's example calls " + name, fed || called.contains(name), true);
            }
        }
        T.due("the README says how to run the tests", readme.contains("\n    .ci/run\n"), true);
        tests(readme);
        T.close("ReadmeTest");
    }

    /** As it stands in the README, byte for byte but for how far it is set in. */
    static void tell(ClauseBench bench, String text) {
        bench.end(0);
        for (int from = 0; from < text.length(); from += 20) {
            int[] fed = new int[5];
            for (int i = 0; i < 20; i++) {
                fed[i / 4] = fed[i / 4] << 8 | (from + i < text.length() ? text.charAt(from + i) : 0);
            }
            bench.feed(fed[0], fed[1], fed[2], fed[3], fed[4]);
        }
        bench.end(text.length());
    }

    private static void tellAsThere(String readme) throws Exception {
        Matcher block = Pattern.compile("(?s)```java\n(static void tell.*?\n\\}\n)```").matcher(readme);
        T.due("the README has a function tell", block.find(), true);
        String here = Files.readString(Path.of("src/test/java/ReadmeTest.java"));
        T.due("it is the one that is run here", here.contains(block.group(1).replaceAll("(?m)^(?=.)", "    ")), true);
    }

    private static TreeSet<String> example(String readme) throws Exception {
        TreeSet<String> called = new TreeSet<>();
        int from = readme.indexOf("ClauseBench bench = new ClauseBench();\n");
        T.due("the README has an example", from > 0, true);
        ClauseBench bench = new ClauseBench();
        String[] rows = readme.substring(Math.max(from, 0), readme.indexOf("```", Math.max(from, 0))).split("\n");
        for (int i = 1; i < rows.length; i++) {
            Matcher tell = TELL.matcher(rows[i]);
            Matcher call = CALL.matcher(rows[i]);
            if (tell.matches()) {
                tell(bench, tell.group(1));
            } else if (call.matches()) {
                T.due("README: " + rows[i], answer(bench, call.group(1), call.group(2)), call.group(3));
                called.add(call.group(1));
            } else {
                T.due("a row of the README's example that is no call", rows[i], "");
            }
        }
        return called;
    }

    private static String answer(ClauseBench bench, String name, String list) throws Exception {
        String[] words = list.isEmpty() ? new String[0] : list.split(", ");
        Class<?>[] types = new Class<?>[words.length];
        Object[] values = new Object[words.length];
        for (int i = 0; i < words.length; i++) {
            boolean truth = words[i].equals("true") || words[i].equals("false");
            types[i] = truth ? boolean.class : int.class;
            values[i] = truth ? (Object) Boolean.valueOf(words[i]) : (Object) Integer.valueOf(words[i]);
        }
        return String.valueOf(ClauseBench.class.getMethod(name, types).invoke(bench, values));
    }

    /** The table of tests has a row for each, and none for a test that there is not. */
    private static void tests(String readme) throws Exception {
        TreeSet<String> there = new TreeSet<>();
        try (var files = Files.list(Path.of("src/test/java"))) {
            files.map(file -> file.getFileName().toString()).filter(name -> name.endsWith("Test.java"))
                    .forEach(name -> there.add(name.substring(0, name.length() - 5)));
        }
        TreeSet<String> told = new TreeSet<>();
        Matcher row = Pattern.compile("(?m)^\\| (\\w+Test) \\|").matcher(readme);
        while (row.find()) {
            told.add(row.group(1));
        }
        T.due("the tests that the README tells", told.toString(), there.toString());
    }
}
