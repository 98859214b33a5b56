import java.io.File;
import java.io.IOException;
import java.lang.reflect.Method;
import java.lang.reflect.Modifier;
import java.nio.file.Files;
import java.util.ArrayList;
import java.util.Arrays;
import java.util.List;
import java.util.Set;
import java.util.TreeSet;
import java.util.regex.Matcher;
import java.util.regex.Pattern;

/**
 * README.md holds: its calls answer what it says, it names the whole face and each test, and .ci/run does
 * what it says of it. For that, .ci/run runs a small project with small tests under build/readme.
 */
public final class ReadmeTest {
    private static final File README = new File("README.md");
    private static final File TESTS = new File("src/test/java");
    private static final File ROOM = new File("build/readme");
    private static final File PROJECT = new File(ROOM, "project");
    private static final File OURS = new File(PROJECT, "src/test/java");
    private static final File THEIRS = new File(ROOM, "shared/tests");
    /** Programs in place of javac and java, which tell what they are asked to do. */
    private static final File TELLERS = new File(ROOM, "bin");
    private static final File TOLD = new File(ROOM, "told");
    private static final Pattern CALL = Pattern.compile("(x\\.\\w+\\(.*\\));\\s*// ([-\\w.]+)(:.*)?");
    private static final Pattern LOOK = Pattern.compile(
        "- Of `(\\w+)`, `what` is 0 (?:to|or) (\\d+): (.*?)\\.(?=\n-)", Pattern.DOTALL);
    private static final String NEW_OBJECT = "MakerLines x = new MakerLines();";

    private static String text = "";
    private static int checks = 0;
    private static int wrong = 0;

    public static void main(String[] args) throws Exception {
        must(README.isFile(), "README.md is there");
        text = README.isFile() ? read(README) : "";
        remove(ROOM);
        examples();
        face();
        looks();
        tests();
        runs();
        System.out.println(checks + " checks, " + wrong + " wrong");
        if (wrong != 0) {
            System.exit(1);
        }
    }

    // ---- how to use the class

    private static void examples() throws Exception {
        List<String> blocks = blocks("java");
        must(blocks.size() > 0, "calls are shown");
        for (int i = 0; i < blocks.size(); i++) {
            String name = "Example" + i;
            File file = new File(ROOM, "examples/" + name + ".java");
            write(file, program(name, blocks.get(i)));
            String out = file.getParent();
            Run made = run(new File("."), "javac", "-d", out, "src/main/java/MakerLines.java", file.getPath());
            must(made.code == 0, "example " + i + " compiles: " + made.output);
            Run done = run(new File("."), "java", "-cp", out, name);
            must(done.code == 0, "example " + i + " answers: " + done.output);
        }
    }

    /** A program that makes the calls of an example, and ends with 1 if one has another answer. */
    private static String program(String name, String block) {
        StringBuilder code = new StringBuilder("public class " + name + " {\n"
            + "    public static void main(String[] args) {\n        boolean good = true;\n        Object got;\n");
        for (String line : block.split("\n")) {
            Matcher call = CALL.matcher(line);
            if (call.matches()) {
                code.append("        try { got = ").append(call.group(1)).append("; }")
                    .append(" catch (RuntimeException e) { got = e.getClass().getSimpleName(); }\n")
                    .append("        if (!got.toString().equals(\"").append(call.group(2))
                    .append("\")) { good = false; System.out.println(\"answered \" + got + \", not as in: \" + ")
                    .append(quoted(line)).append("); }\n");
            } else {
                must(line.equals(NEW_OBJECT), "each call is shown with its answer: " + line);
                code.append("        ").append(line).append("\n");
            }
        }
        return code + "        System.exit(good ? 0 : 1);\n    }\n}\n";
    }

    private static String quoted(String line) {
        return "\"" + line.replace("\\", "\\\\").replace("\"", "\\\"") + "\"";
    }

    /** Each call of the face has its place in the table of calls, with all its arguments. */
    private static void face() {
        Set<String> shown = new TreeSet<>();
        Matcher call = Pattern.compile("`(\\w+)\\(([^)]*)\\)`").matcher(text);
        while (call.find()) {
            String arguments = call.group(2);
            shown.add(call.group(1) + " " + (arguments.isEmpty() ? 0 : arguments.split(", ").length));
        }
        Set<String> due = new TreeSet<>();
        for (Method method : MakerLines.class.getDeclaredMethods()) {
            if (Modifier.isPublic(method.getModifiers())) {
                due.add(method.getName() + " " + method.getParameterCount());
            }
        }
        must(shown.equals(due), "the calls of the table are " + shown + ", due are " + due);
        must(text.contains("`MakerLines.NONE` (" + MakerLines.NONE + ")"), "NONE is shown");
    }

    /** Each number that can be looked at has a name, and there are no more. */
    private static void looks() {
        Set<String> shown = new TreeSet<>();
        Matcher look = LOOK.matcher(text);
        while (look.find()) {
            String name = look.group(1);
            int last = Integer.parseInt(look.group(2));
            String[] names = look.group(3).split(", (?:and )?");
            shown.add(name);
            must(names.length == last + 1, name + ": " + Arrays.toString(names));
            must(isLooked(name, last) && !isLooked(name, last + 1), name + " ends with " + last);
        }
        must(shown.equals(Set.of("line", "cell", "solved", "count")), "what is shown of " + shown);
    }

    private static boolean isLooked(String name, int what) {
        MakerLines x = new MakerLines();
        x.addLine(1);
        try {
            switch (name) {
                case "line": x.line(0, what); return true;
                case "cell": x.cell(0, what); return true;
                case "solved": x.solved(what); return true;
                default: x.count(what); return true;
            }
        } catch (IllegalArgumentException e) {
            return false;
        }
    }

    // ---- how to run the tests

    private static void tests() {
        Set<String> shown = new TreeSet<>();
        Matcher row = Pattern.compile("(?m)^\\| `(\\w+)` \\|").matcher(text);
        while (row.find()) {
            shown.add(row.group(1));
        }
        Set<String> due = new TreeSet<>();
        for (String name : TESTS.list()) {
            due.add(name.replace(".java", ""));
        }
        must(shown.equals(due), "the tests of the table are " + shown + ", due are " + due);
    }

    private static void runs() throws Exception {
        must(new File(".ci/run").canExecute(), ".ci/run can be executed");
        write(new File(PROJECT, ".ci/run"), read(new File(".ci/run")));
        must(new File(PROJECT, ".ci/run").setExecutable(true), "its copy, too");
        write(new File(PROJECT, "src/main/java/MakerLines.java"), "public final class MakerLines {}\n");
        teller("javac");
        teller("java");
        runWithGoodTests();
        runFails("a test of ours that ends with 1", new File(OURS, "OneTest.java"), small("OneTest", 1));
        runFails("a test of ours that ends with 3", new File(OURS, "TwoTest.java"), small("TwoTest", 3));
        runFails("a test of theirs that ends with 1", new File(THEIRS, "RunsTest.java"), small("RunsTest", 1));
        runFails("a test of theirs that does not compile", new File(THEIRS, "RunsTest.java"), "public");
        goodTests();
        remove(THEIRS);
        must(runProject().code != 0, "the run fails without tests of theirs");
        goodTests();
        remove(OURS);
        must(runProject().code != 0, "the run fails without tests of ours");
    }

    private static void goodTests() throws IOException {
        write(new File(OURS, "OneTest.java"), small("OneTest", 0));
        write(new File(OURS, "TwoTest.java"), small("TwoTest", 0));
        write(new File(THEIRS, "RunsTest.java"), small("RunsTest", 0));
    }

    private static void runWithGoodTests() throws Exception {
        goodTests();
        File old = new File(PROJECT, "build/old");
        write(old, "");
        Run run = runProject();
        must(run.code == 0, "the run of good tests ends with 0, not with " + run.code);
        must(run.output.contains("3 passed, 0 failed"), "it tells how many: " + run.output);
        must(!old.exists(), "build/ is emptied first");
        must(new File(PROJECT, "build/theirs/RunsTest/RunsTest.class").exists(), "classes go to build/");
        String due = commands("ours", "src/test/java", "OneTest") + commands("ours", "src/test/java", "TwoTest")
            + commands("theirs", "../shared/tests", "RunsTest");
        must(read(TOLD).equals(due), ".ci/run does " + read(TOLD) + "where README.md says " + due);
    }

    /** What README.md says is done for one test. */
    private static String commands(String out, String folder, String name) {
        List<String> blocks = blocks("sh");
        must(blocks.size() == 1, "the commands for one test are shown");
        return blocks.isEmpty() ? "" : blocks.get(0).replace("PromiseTest", name)
            .replace("build/ours", "build/" + out).replace("src/test/java", folder);
    }

    private static void runFails(String why, File file, String content) throws Exception {
        goodTests();
        write(file, content);
        Run run = runProject();
        must(run.code != 0, "the run fails by " + why);
        must(run.output.contains("2 passed, 1 failed"), why + ": the others are run: " + run.output);
    }

    /** A test that ends with this code, if it is compiled together with MakerLines. */
    private static String small(String name, int code) {
        return "public final class " + name + " {\n    public static void main(String[] args) {\n"
            + "        new MakerLines();\n        System.exit(" + code + ");\n    }\n}\n";
    }

    private static void teller(String name) throws IOException {
        File file = new File(TELLERS, name);
        write(file, "#!/bin/sh\necho \"" + name + " $*\" >> '" + TOLD.getAbsolutePath() + "'\n"
            + "PATH='" + System.getenv("PATH") + "' exec " + name + " \"$@\"\n");
        must(file.setExecutable(true), name + " is told");
    }

    /** Runs the small project from a folder that is not its own. */
    private static Run runProject() throws Exception {
        remove(TOLD);
        return run(ROOM, new File(PROJECT, ".ci/run").getAbsolutePath());
    }

    // ---- helpers

    private static void must(boolean holds, String what) {
        checks++;
        if (!holds) {
            wrong++;
            System.out.println("does not hold: " + what);
        }
    }

    /** The text of each block of this kind. */
    private static List<String> blocks(String kind) {
        List<String> blocks = new ArrayList<>();
        Matcher block = Pattern.compile("(?ms)^```" + kind + "\n(.*?)^```$").matcher(text);
        while (block.find()) {
            blocks.add(block.group(1));
        }
        return blocks;
    }

    private static final class Run {
        final int code;
        final String output;

        Run(int code, String output) {
            this.code = code;
            this.output = output;
        }
    }

    private static Run run(File folder, String... command) throws Exception {
        ProcessBuilder builder = new ProcessBuilder(command).directory(folder).redirectErrorStream(true);
        builder.environment().put("PATH", TELLERS.getAbsolutePath() + ":" + System.getenv("PATH"));
        Process process = builder.start();
        process.getOutputStream().close();
        String output = new String(process.getInputStream().readAllBytes());
        return new Run(process.waitFor(), output);
    }

    private static String read(File file) throws IOException {
        return file.isFile() ? Files.readString(file.toPath()) : "";
    }

    private static void write(File file, String content) throws IOException {
        Files.createDirectories(file.toPath().getParent());
        Files.writeString(file.toPath(), content);
    }

    private static void remove(File file) {
        File[] inside = file.listFiles();
        if (inside != null) {
            for (File one : inside) {
                remove(one);
            }
        }
        file.delete();
    }
}
