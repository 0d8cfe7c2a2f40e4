import java.io.IOException;
import java.lang.reflect.Method;
import java.lang.reflect.Modifier;
import java.net.URL;
import java.net.URLClassLoader;
import java.nio.file.Files;
import java.nio.file.Path;
import java.util.ArrayList;
import java.util.Comparator;
import java.util.List;
import java.util.regex.Matcher;
import java.util.regex.Pattern;
import java.util.stream.Stream;
import javax.tools.ToolProvider;

/** README.md's example compiles, and each call in it answers what the page says behind it. */
public final class RunHeapReadme {

    private static final String[] TESTS = {"src/test/java", "src/test/help"};
    private static final Pattern CALL = Pattern.compile(
            "(?<into>(?:int )?\\w+ = )?(?<call>heap\\.\\w+\\(.*\\)); *// (?<due>.*)");
    private static int wrong = 0;
    private static int heard = 0;

    public static void main(String[] args) throws Exception {
        String page = Files.readString(Path.of("README.md"));
        List<String> example = exampleOf(page);
        everyMethodIsShown(example);
        everyTestIsNamed(page);
        runExample(example);
        System.out.println(heard + " answers in README.md, " + wrong + " faults");
        if (wrong != 0 || heard == 0) {
            System.exit(1);
        }
    }

    private static void fault(String text) {
        wrong++;
        System.out.println(text);
    }

    /** The example's own code calls this. */
    public static void due(String line, String got, String want) {
        heard++;
        if (!got.equals(want)) {
            fault(line + " answered " + got);
        }
    }

    private static List<String> exampleOf(String page) {
        List<String> lines = new ArrayList<>();
        Matcher block = Pattern.compile("```java\n(.*?)```", Pattern.DOTALL).matcher(page);
        while (block.find()) {
            lines.addAll(block.group(1).lines().filter(line -> !line.isBlank()).toList());
        }
        return lines;
    }

    private static void everyMethodIsShown(List<String> example) {
        for (Method method : RunHeap.class.getDeclaredMethods()) {
            String call = "heap." + method.getName() + "(";
            if (Modifier.isPublic(method.getModifiers())
                    && example.stream().noneMatch(line -> line.contains(call))) {
                fault("README.md does not show " + method.getName());
            }
        }
    }

    private static void everyTestIsNamed(String page) throws IOException {
        for (String folder : TESTS) {
            try (Stream<Path> files = Files.list(Path.of(folder))) {
                files.map(file -> file.getFileName().toString().replace(".java", ""))
                        .filter(name -> !page.contains(name))
                        .forEach(name -> fault("README.md does not name " + name));
            }
        }
    }

    /** A line whose answer is not told would be run and looked at by nobody. */
    private static String checked(String line) {
        Matcher call = CALL.matcher(line);
        if (!call.matches()) {
            if (line.contains("heap.")) {
                fault("no answer is told: " + line);
            }
            return line;
        }
        String due = call.group("due");
        String want = due.replaceFirst("^throws ", "throws.").replaceFirst("[: ].*", "");
        String told = "\"" + line.replace("\"", "\\\"") + "\", ";
        if (call.group("into") != null) {
            String name = call.group("into").replaceAll("int | = ", "");
            return line + "\nRunHeapReadme.due(" + told + "\"\" + " + name + ", \"" + want + "\");";
        }
        return "{ String got; try { got = \"\" + " + call.group("call") + "; } "
                + "catch (RuntimeException e) { "
                + "got = \"throws.\" + e.getClass().getSimpleName(); }\n"
                + "RunHeapReadme.due(" + told + "got, \"" + want + "\"); }";
    }

    private static void runExample(List<String> example) throws Exception {
        StringBuilder code = new StringBuilder("public class Example { public static void run() {");
        example.forEach(line -> code.append('\n').append(checked(line)));
        Path folder = Files.createTempDirectory("readme");
        try {
            Path source = folder.resolve("Example.java");
            Files.writeString(source, code.append("\n} }\n"));
            int compiled = ToolProvider.getSystemJavaCompiler().run(null, null, null, "-cp",
                    System.getProperty("java.class.path"), "-d", folder.toString(),
                    source.toString());
            if (compiled != 0) {
                fault("the example does not compile");
                return;
            }
            URL[] from = {folder.toUri().toURL()};
            try (URLClassLoader loader = new URLClassLoader(from)) {
                loader.loadClass("Example").getMethod("run").invoke(null);
            }
        } finally {
            removeAll(folder);
        }
    }

    private static void removeAll(Path folder) throws IOException {
        try (Stream<Path> files = Files.walk(folder)) {
            for (Path file : files.sorted(Comparator.reverseOrder()).toList()) {
                Files.delete(file);
            }
        }
    }
}
