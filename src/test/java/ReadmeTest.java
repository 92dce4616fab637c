import java.io.File;
import java.io.IOException;
import java.lang.reflect.Field;
import java.lang.reflect.Method;
import java.lang.reflect.Modifier;
import java.nio.charset.StandardCharsets;
import java.nio.file.Files;
import java.nio.file.Path;
import java.util.ArrayList;
import java.util.List;
import java.util.Set;
import java.util.TreeSet;
import java.util.regex.Matcher;
import java.util.regex.Pattern;

/** What README.md shows: its program prints what it says, each call answers what stands behind it. */
public final class ReadmeTest {
    private static final Pattern BLOCK = Pattern.compile("(?ms)^```(\\w+)\n(.*?)^```$");
    private static final Pattern CALL = Pattern.compile("x\\.(\\w+)\\(([^\"]*)\\);\\s+// (-?\\d+|[A-Z]+)(: .+)?");
    private static final Pattern TOLD = Pattern.compile("(tell|letters)\\(x, \"[^\"]*\"\\);");
    private static final Pattern MADE = Pattern.compile("NestReaders x = new NestReaders\\(\\);");

    private static final Check check = new Check("ReadmeTest");
    private static final Set<String> shown = new TreeSet<>();

    public static void main(String[] args) throws IOException, InterruptedException {
        Path source = Path.of(args[0]);
        String readme = Files.readString(Path.of("README.md"));
        Path folder = Files.createTempDirectory("readme");
        try {
            Path there = folder.resolve("src/main/java/NestReaders.java");
            Files.createDirectories(there.getParent());
            Files.copy(source, there);
            program(readme, folder);
            calls(readme, folder, there);
        } finally {
            remove(folder.toFile());
        }
        face();
        tests(readme);
        check.end();
    }

    /** The program, compiled and run by the commands that README.md shows. */
    private static void program(String readme, Path folder) throws IOException, InterruptedException {
        List<String> programs = new ArrayList<>();
        for (String block : blocks(readme, "java")) {
            if (block.contains("class Example")) {
                programs.add(block);
            }
        }
        List<String> commands = blocks(readme, "sh");
        List<String> outputs = blocks(readme, "text");
        check.due("README.md: whole programs", programs.size(), 1);
        check.due("README.md: blocks of commands", commands.size(), 1);
        check.due("README.md: blocks of output", outputs.size(), 1);
        if (programs.size() != 1 || commands.size() != 1 || outputs.size() != 1) {
            return;
        }
        Files.writeString(folder.resolve("Example.java"), programs.get(0));
        StringBuilder told = new StringBuilder();
        int exit = told(folder, told, "sh", "-eu", "-c", commands.get(0));
        check.due("README.md: the exit code of the commands", exit, 0);
        check.yes("README.md: the program prints\n" + told + "due is\n" + outputs.get(0),
                told.toString().equals(outputs.get(0)));
    }

    /** The calls, in their order, as one program of their own. */
    private static void calls(String readme, Path folder, Path source) throws IOException, InterruptedException {
        StringBuilder body = new StringBuilder();
        int answers = 0;
        for (String block : blocks(readme, "java")) {
            if (block.contains("class Example")) {
                continue;
            }
            for (String line : block.split("\n")) {
                Matcher call = CALL.matcher(line);
                if (call.matches()) {
                    body.append("due(\"").append(call.group(1)).append('(').append(call.group(2)).append(")\", x.")
                            .append(call.group(1)).append('(').append(call.group(2)).append("), ")
                            .append(answer(call.group(3))).append(");\n");
                    shown.add(call.group(1));
                    shown.add(call.group(3));
                    answers++;
                } else if (TOLD.matcher(line).matches()) {
                    body.append("Example.").append(line).append('\n');
                } else {
                    check.yes("README.md: an answer stands behind: " + line,
                            line.isEmpty() || MADE.matcher(line).matches());
                    body.append(line).append('\n');
                }
            }
        }
        check.yes("README.md: calls with their answers", answers > 0);
        Files.writeString(folder.resolve("Use.java"), "public final class Use {\nstatic int wrong = 0;\n"
                + "static void due(String call, int got, int want) {\nif (got != want) {\nwrong++;\n"
                + "System.out.println(call + \" answered \" + got + \", README.md says \" + want);\n}\n}\n"
                + "public static void main(String[] args) {\n" + body + "System.exit(wrong == 0 ? 0 : 1);\n}\n}\n");
        StringBuilder told = new StringBuilder();
        String out = folder.resolve("use").toString();
        int exit = told(folder, told, "javac", "-d", out, source.toString(), "Example.java", "Use.java");
        if (exit == 0) {
            exit = told(folder, told, "java", "-cp", out, "Use");
        }
        check.yes("README.md: the calls answer\n" + told, exit == 0);
    }

    private static String answer(String told) {
        return Character.isLetter(told.charAt(0)) ? "NestReaders." + told : told;
    }

    /** Each call and each constant of the class is shown. */
    private static void face() {
        for (Method method : NestReaders.class.getDeclaredMethods()) {
            if (Modifier.isPublic(method.getModifiers())) {
                check.yes("README.md: shows " + method.getName(), shown.contains(method.getName()));
            }
        }
        for (Field field : NestReaders.class.getDeclaredFields()) {
            if (Modifier.isPublic(field.getModifiers())) {
                check.yes("README.md: shows " + field.getName(), shown.contains(field.getName()));
            }
        }
    }

    /** Each test that there is stands in README.md, and none that there is not. */
    private static void tests(String readme) {
        Set<String> named = new TreeSet<>();
        Matcher name = Pattern.compile("`(\\w+Test)`").matcher(readme);
        while (name.find()) {
            named.add(name.group(1));
        }
        Set<String> there = new TreeSet<>();
        for (String file : new File("src/test/java").list()) {
            if (file.endsWith("Test.java")) {
                there.add(file.substring(0, file.length() - 5));
            }
        }
        check.yes("README.md: names the tests " + there + ", says " + named, named.equals(there));
        check.yes("README.md: says .ci/run", readme.contains("\n    .ci/run\n") && new File(".ci/run").canExecute());
    }

    private static List<String> blocks(String readme, String kind) {
        List<String> all = new ArrayList<>();
        Matcher block = BLOCK.matcher(readme);
        while (block.find()) {
            if (block.group(1).equals(kind)) {
                all.add(block.group(2));
            }
        }
        return all;
    }

    /** Runs a command in a folder and keeps what it tells: its exit code. */
    private static int told(Path folder, StringBuilder told, String... command)
            throws IOException, InterruptedException {
        Process process = new ProcessBuilder(command).directory(folder.toFile()).redirectErrorStream(true).start();
        process.getOutputStream().close();
        told.append(new String(process.getInputStream().readAllBytes(), StandardCharsets.UTF_8));
        return process.waitFor();
    }

    private static void remove(File file) {
        File[] inside = file.listFiles();
        for (int i = 0; inside != null && i < inside.length; i++) {
            remove(inside[i]);
        }
        file.delete();
    }
}
