import java.io.File;
import java.io.IOException;
import java.lang.reflect.Method;
import java.lang.reflect.Modifier;
import java.nio.file.Files;
import java.nio.file.Path;
import java.util.ArrayList;
import java.util.List;
import java.util.regex.Matcher;
import java.util.regex.Pattern;
import javax.tools.ToolProvider;

/** What README.md says is so: its program prints what stands behind it, and nothing that there is goes unnamed. */
public final class ReadmeTest {
    public static void main(String[] args) throws IOException, InterruptedException {
        String readme = Files.readString(Path.of("README.md"));
        program(block(readme, "java"), block(readme, "text"));
        names(readme);
        Kit.end();
    }

    private static String block(String readme, String sort) {
        Matcher m = Pattern.compile("(?s)```" + sort + "\n(.*?)```").matcher(readme);
        boolean found = m.find();
        Kit.due("README has a block of " + sort, found ? 1 : 0, 1);
        return found ? m.group(1) : "";
    }

    private static void program(String source, String output) throws IOException, InterruptedException {
        Path room = Files.createTempDirectory("readme");
        Path file = room.resolve("Example.java");
        Files.writeString(file, source);
        String main = Path.of("src/main/java/PillarDesk.java").toString();
        int compiled = ToolProvider.getSystemJavaCompiler().run(null, null, null, "-d", room.toString(), main, file.toString());
        Kit.due("the program of README compiles", compiled, 0);
        String java = Path.of(System.getProperty("java.home"), "bin", "java").toString();
        Process run = new ProcessBuilder(java, "-cp", room.toString(), "Example").redirectErrorStream(true).start();
        String printed = new String(run.getInputStream().readAllBytes());
        Kit.due("the program of README ends", run.waitFor(), 0);
        Kit.due("the program of README printed\n" + printed + "where README has\n" + output, printed.equals(output) ? 1 : 0, 1);
        for (File f : room.toFile().listFiles()) {
            Files.delete(f.toPath());
        }
        Files.delete(room);
    }

    private static void names(String readme) {
        for (Method m : PillarDesk.class.getDeclaredMethods()) {
            if (Modifier.isPublic(m.getModifiers())) {
                Kit.due("README names " + m.getName(), readme.contains("`" + m.getName() + "`") ? 1 : 0, 1);
            }
        }
        List<String> tests = new ArrayList<>();
        for (String name : new File("src/test/java").list()) {
            if (name.endsWith("Test.java")) {
                tests.add(name.substring(0, name.length() - 5));
                Kit.due("README names " + name, readme.contains("`" + name.substring(0, name.length() - 5) + "`") ? 1 : 0, 1);
            }
        }
        Matcher named = Pattern.compile("`(\\w+Test)`").matcher(readme);
        while (named.find()) {
            Kit.due("there is a " + named.group(1), tests.contains(named.group(1)) ? 1 : 0, 1);
        }
    }
}
