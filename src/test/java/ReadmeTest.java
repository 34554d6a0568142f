import java.io.File;
import java.net.URL;
import java.net.URLClassLoader;
import java.nio.file.Files;
import java.nio.file.Path;
import java.util.ArrayList;
import java.util.List;
import java.util.TreeSet;
import java.util.regex.Matcher;
import java.util.regex.Pattern;
import javax.tools.JavaCompiler;
import javax.tools.ToolProvider;

/** What README.md says can be done as it stands there: its example, its calls, its commands, its tests. */
public final class ReadmeTest {
    private static final Due T = new Due();
    private static final Path MAIN = Path.of("src/main/java/TheAngelsWantMore.java");
    private static final Path TESTS = Path.of("src/test/java");

    public static void main(String[] args) throws Exception {
        String readme = Files.readString(Path.of("README.md"));
        Path out = Files.createTempDirectory("readme");
        try {
            example(readme, out);
            commands(readme, out);
        } finally {
            remove(out.toFile());
        }
        calls(readme);
        tests(readme);
        T.end();
    }

    private static void remove(File file) {
        File[] inside = file.listFiles();
        if (inside != null) {
            for (File one : inside) {
                remove(one);
            }
        }
        file.delete();
    }

    /** All between the fences of a language, one text for each pair. */
    private static List<String> fenced(String readme, String language) {
        List<String> texts = new ArrayList<>();
        Matcher m = Pattern.compile("(?s)```" + language + "\n(.*?)```").matcher(readme);
        while (m.find()) {
            texts.add(m.group(1));
        }
        return texts;
    }

    private static int compile(Path out, String... files) {
        JavaCompiler compiler = ToolProvider.getSystemJavaCompiler();
        List<String> words = new ArrayList<>(List.of("-encoding", "UTF-8", "-d", out.toString()));
        words.addAll(List.of(files));
        return compiler.run(null, null, null, words.toArray(new String[0]));
    }

    /** The example is compiled as it stands; each call with a number behind it must answer that number. */
    private static void example(String readme, Path out) throws Exception {
        T.part("the example of README.md");
        List<String> blocks = fenced(readme, "java");
        T.due("blocks", blocks.size(), 1);
        List<String> said = new ArrayList<>();
        List<Long> due = new ArrayList<>();
        StringBuilder code = new StringBuilder();
        for (String line : blocks.get(0).split("\n")) {
            Matcher m = Pattern.compile("(x\\.\\w+\\(.*\\));\\s*// (-?\\d+).*").matcher(line);
            if (m.matches()) {
                said.add(m.group(1));
                due.add(Long.parseLong(m.group(2)));
                code.append("answers[").append(said.size() - 1).append("] = ").append(m.group(1)).append(";\n");
            } else {
                code.append(line).append('\n');
            }
        }
        T.due("some calls with their answers", said.size() >= 10 ? 1 : 0, 1);
        Path file = out.resolve("ReadmeExample.java");
        Files.writeString(file, "public final class ReadmeExample { public static long[] run() { long[] answers = new long["
                + said.size() + "];\n" + code + "return answers; } }\n");
        T.due("compiled", compile(out, MAIN.toString(), file.toString()), 0);
        try (URLClassLoader loader = new URLClassLoader(new URL[] {out.toUri().toURL()}, null)) {
            long[] answers = (long[]) loader.loadClass("ReadmeExample").getMethod("run").invoke(null);
            for (int i = 0; i < answers.length; i++) {
                T.due(said.get(i), answers[i], due.get(i));
            }
        }
    }

    /** The commands are there; what they compile and run does compile, and has a main. */
    private static void commands(String readme, Path out) throws Exception {
        T.part("the commands of README.md");
        List<String> blocks = fenced(readme, "sh");
        T.due("blocks", blocks.size(), 2);
        T.due(".ci/run is executable", Files.isExecutable(Path.of(blocks.get(0).trim())) ? 1 : 0, 1);
        Matcher m = Pattern.compile("javac -sourcepath (\\S+) -d (\\S+) (\\S+) (\\S+)\njava -cp (\\S+) (\\w+)\n").matcher(blocks.get(1));
        T.due("compiled, then run", m.matches() ? 1 : 0, 1);
        T.due("where it was compiled to", m.group(2).equals(m.group(5)) ? 1 : 0, 1);
        T.due("compiled", compile(out, "-sourcepath", m.group(1), m.group(3), m.group(4)), 0);
        try (URLClassLoader loader = new URLClassLoader(new URL[] {out.toUri().toURL()}, null)) {
            T.due("a main", loader.loadClass(m.group(6)).getMethod("main", String[].class) != null ? 1 : 0, 1);
        }
    }

    /** Each call of the class stands in the table of calls with as many numbers as it takes, and no other. */
    private static void calls(String readme) {
        T.part("the calls of README.md");
        TreeSet<String> told = new TreeSet<>();
        Matcher row = Pattern.compile("(?m)^\\| (`\\w+\\(.*?\\)`) \\|").matcher(readme);
        while (row.find()) {
            Matcher call = Pattern.compile("`(\\w+)\\((.*?)\\)`").matcher(row.group(1));
            while (call.find()) {
                told.add(call.group(1) + " " + (call.group(2).isEmpty() ? 0 : call.group(2).split(",").length));
            }
        }
        TreeSet<String> face = new TreeSet<>();
        for (java.lang.reflect.Method m : TheAngelsWantMore.class.getDeclaredMethods()) {
            if (java.lang.reflect.Modifier.isPublic(m.getModifiers())) {
                face.add(m.getName() + " " + m.getParameterCount());
            }
        }
        T.due("the calls " + told + " are " + face, told.equals(face) ? 1 : 0, 1);
    }

    /** The table of tests names each test there is, and no other. */
    private static void tests(String readme) {
        T.part("the tests of README.md");
        TreeSet<String> told = new TreeSet<>();
        Matcher row = Pattern.compile("(?m)^\\| (\\w+Test) \\|").matcher(readme);
        while (row.find()) {
            told.add(row.group(1));
        }
        TreeSet<String> there = new TreeSet<>();
        String[] files = TESTS.toFile().list();
        for (String file : files == null ? new String[0] : files) {
            there.add(file.replace(".java", ""));
        }
        T.due("the tests " + told + " are " + there, told.equals(there) ? 1 : 0, 1);
    }
}
