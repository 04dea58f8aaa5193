import java.lang.management.ManagementFactory;
import java.nio.file.Files;
import java.nio.file.Path;
import java.util.Random;
import java.util.TreeSet;
import java.util.regex.Matcher;
import java.util.regex.Pattern;

/** What of LANGUAGE.md can be seen in the source's text; that no call throws; the room that a run takes. */
public final class RulesTest {
    private static final Tape T = new Tape();

    public static void main(String[] args) throws Exception {
        source(Files.readString(Path.of("src/main/java/ClauseBench.java")));
        neverThrows();
        room();
        T.close("RulesTest");
    }

    private static int found(String text, String pattern) {
        Matcher m = Pattern.compile(pattern).matcher(text);
        int n = 0;
        while (m.find()) {
            n++;
        }
        return n;
    }

    private static void source(String whole) {
        String text = whole.replaceAll("(?s)/\\*.*?\\*/", "").replaceAll("//[^\n]*", "");
        String code = text.replaceAll("\"[^\"\n]*\"", "\"\"");
        String[] none = {"\\bthrows?\\b", "\\btry\\b", "\\bcatch\\b", "\\bsynchronized\\b", "\\bassert\\b", "->", "::",
            "\\bstatic\\s*\\{", "\\bpackage\\b", "\\bprotected\\b", "\\bSystem\\.(?!arraycopy)", "\\bRandom\\b",
            "Exact\\(", "\\bhashCode\\b", "\"\"\\s*\\+", "\\+\\s*\"\""};
        for (String pattern : none) {
            T.due("the source has " + pattern, found(code, pattern), 0);
        }
        T.due("imports", found(code, "(?m)^import (?!java\\.util\\.Arrays;)"), 0);
        T.due("public classes", found(code, "public final class ClauseBench \\{"), 1);
        T.due("public members", found(code, "\\bpublic\\b"), 1 + 1 + 1 + 23);
        T.due("classes inside that are not private, static and final",
                found(code, "\\b(class|enum|interface|record) ") - 1 - found(code, "private static final class "), 0);
        T.due("at most twelve classes", found(code, "\\bclass ") <= 12, true);
        T.due("bytes above 127", found(whole, "[^\\x00-\\x7f]"), 0);
        names(code);
        methods(code);
        library(code);
        fields(code);
    }

    /** Rule 4: what is called of the library is what it lists. */
    private static void library(String code) {
        Matcher m = Pattern.compile("\\b(Math|Integer|Long|Arrays|System|String|StringBuilder|List|ArrayList)\\b(\\.\\w+)?")
                .matcher(code);
        TreeSet<String> listed = new TreeSet<>(java.util.List.of("Math.max", "Math.min", "Integer.bitCount",
                "Long.bitCount", "Long.numberOfTrailingZeros", "Arrays.copyOfRange", "System.arraycopy", "String"));
        while (m.find()) {
            boolean imported = code.startsWith("import java.util.Arrays;", Math.max(0, m.start() - 17));
            T.due("the source calls " + m.group(), imported || listed.contains(m.group()), true);
        }
        T.due("other classes of the library", found(code, "\\b(Map|Set|Object|Iterator|Thread|Class|Character|Double)\\b"), 0);
        T.due("doubles and floats", found(code, "\\b(double|float)\\b"), 0);
    }

    /** Rules 5 and 11: static fields are final; a class has some twenty fields. */
    private static void fields(String code) {
        T.due("static fields that are not final", found(code, "\\bstatic (?!final )[\\w\\[\\]]+ \\w+( =|;)"), 0);
        T.due("static arrays that are not written out", found(code, "static final \\w+\\[\\] \\w+ = (?!\\{)"), 0);
        int own = found(code, "(?m)^ {4}private (final )?(?!static)[\\w\\[\\]]+ \\w+;");
        T.due("fields of ClauseBench", own > 10 && own <= 20, true);
        for (String inner : code.split("private static final class ")) {
            T.due("fields of a class inside", found(inner, "(?m)^ {8}(private )?(final )?(?!return|static)[\\w\\[\\]]+ \\w+;") <= 20,
                    true);
        }
    }

    private static void names(String code) {
        TreeSet<String> open = new TreeSet<>();
        Matcher m = Pattern.compile("public (?:int|boolean) (\\w+)\\(").matcher(code);
        while (m.find()) {
            open.add(m.group(1));
        }
        T.due("methods of the face", open.size(), 23);
        m = Pattern.compile("(?m)^ +(?:private |static |final )*[\\w\\[\\]]+ (\\w+)\\([^;{]*\\) \\{").matcher(code);
        int n = 0;
        while (m.find()) {
            n++;
            if (!m.group().contains("public") && open.contains(m.group(1))) {
                T.due("a method with the name of a public one: " + m.group(1), 1, 0);
            }
            T.due(m.group(1) + " has at most seven parameters", found(m.group(), ","), Math.min(6, found(m.group(), ",")));
        }
        T.due("methods were looked at", n > 60, true);
    }

    private static void methods(String code) {
        Matcher m = Pattern.compile("(?ms)^( {4}| {8})(?! )[^\n]*\\) \\{\n.*?^\\1\\}").matcher(code);
        while (m.find()) {
            T.due("a method of some sixty lines: " + m.group().split("\n")[0].trim(), found(m.group(), "\n") <= 60, true);
        }
    }

    private static int odd(Random random) {
        int[] some = {-1, 0, 1, 2, 3, 4, 5, 9999, 10000, 255, 256, Integer.MAX_VALUE, Integer.MIN_VALUE};
        return random.nextInt(4) == 0 ? some[random.nextInt(some.length)] : random.nextInt(5);
    }

    /** Also far behind the 512th call, and with more RIDERS than any run can have. */
    private static void neverThrows() {
        Random random = new Random(5);
        for (int run = 0; run < 40; run++) {
            ClauseBench x = new ClauseBench();
            if (run % 4 > 0) {
                Tape.facts(x, "a b c d e f g h".substring(0, 1 + 2 * random.nextInt(8)));
                Tape.version(x, 0, "define n as a; p: duty x to y by 5 workdays if n; q: ban x to y over p");
            }
            for (int call = 0; call < 4000; call++) {
                anyCall(x, random);
            }
        }
    }

    private static void anyCall(ClauseBench x, Random random) {
        int a = odd(random);
        int b = odd(random);
        int c = odd(random);
        int d = odd(random);
        switch (random.nextInt(26)) {
            case 0 -> x.feed(random.nextInt(), a, b, c, d);
            case 1 -> x.end(random.nextInt(40) - 2);
            case 2 -> x.facts();
            case 3 -> x.version(a);
            case 4 -> x.rider(a, b);
            case 5 -> x.takeOff();
            case 6 -> x.world();
            case 7 -> x.write(a);
            case 8 -> x.octet(a);
            case 9 -> x.back();
            case 10 -> x.clause(a, b, c);
            case 11 -> x.letter(a, b, c);
            case 12 -> x.holds(a, b, c);
            case 13 -> x.outcomes(a, b);
            case 14 -> x.outcome(a, b, c, d);
            case 15 -> x.differs(a, b);
            case 16 -> x.changed(a, b, c, d);
            case 17 -> x.quarrel(a);
            case 18 -> x.quarreling(a);
            case 19 -> x.gap(a, b);
            case 20 -> x.free(a, random.nextBoolean());
            case 21 -> x.due(a, b, c, d);
            case 22 -> x.count(a);
            default -> {
                x.end(0);
                Tape.put(x, random.nextBoolean() ? "add r: ban x to y; strike r" : "replace define n as not a");
                x.rider(random.nextInt(4), random.nextInt(4));
            }
        }
    }

    private static long taken() {
        return ((com.sun.management.ThreadMXBean) ManagementFactory.getThreadMXBean()).getCurrentThreadAllocatedBytes();
    }

    /** An element is a byte at least and an object sixteen: so bytes bound both. */
    private static void room() {
        new ClauseBench();
        long before = taken();
        ClauseBench x = new ClauseBench();
        T.due("a new object takes little", taken() - before < 40_000, true);
        Tape.facts(x, "a b c d e f g h");
        StringBuilder text = new StringBuilder("pa: ban x to y");
        for (int k = 1; k < 24; k++) {
            text.append("; p").append((char) ('a' + k)).append(": ban x to y if(a)and(b or not c)");
        }
        T.due("24 CLAUSES", Tape.version(x, 0, text.toString()), 24);
        Tape.version(x, 0, text.toString().replace("(a)and", ""));
        before = taken();
        int on = 0;
        for (int k = 0; k < 150; k++) {
            x.feed(0x73747269, 0x6b652070, 0x783b6164, 0x64207078, 0x3a62616e);
            x.feed(0x20782074, 0x6f207920, 0x20202020, 0x20202020, 0x20202020);
            on += x.rider(0, 1) == 24 ? 1 : 0;
        }
        T.due("RIDERS", on, 150);
        T.due("their room", taken() - before < 5_000_000, true);
        before = taken();
        for (int k = 0; k < 512; k++) {
            x.differs(0, 1);
        }
        T.due("the room of comparing", taken() - before < 500_000, true);
    }
}
