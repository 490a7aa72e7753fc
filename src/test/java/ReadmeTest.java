import java.io.IOException;
import java.nio.file.Files;
import java.nio.file.Path;

/** The example of README.md: its lines stand here as they stand there, and answer what it says. */
final class ReadmeTest {
    public static void main(String[] args) throws IOException {
        example();
        sameLines();
        Checks.finish();
    }

    private static void example() {
        // README from here
        MixedCritKernel kernel = new MixedCritKernel(8);
        int video = kernel.addTask(4, 2, 2, MixedCritKernel.LO);
        int brake = kernel.addTask(8, 2, 5, MixedCritKernel.HI);
        int verdict = kernel.admit();
        int early = kernel.run(8);
        boolean set = kernel.setExec(brake, 5);
        int late = kernel.run(16);
        int switches = kernel.stat(MixedCritKernel.STAT_SWITCHES);
        int skipped = kernel.counter(video, MixedCritKernel.CNT_SKIPPED);
        int done = kernel.counter(brake, MixedCritKernel.CNT_COMPLETED);
        // README to here
        Checks.due("video", video, 0);
        Checks.due("brake", brake, 1);
        Checks.due("verdict", verdict, MixedCritKernel.VERDICT_VD);
        Checks.due("xNum", kernel.xNum(), 1);
        Checks.due("xDen", kernel.xDen(), 2);
        Checks.due("early", early, 6);
        Checks.due("set", set, true);
        Checks.due("late", late, 13);
        Checks.due("switches", switches, 1);
        Checks.due("skipped", skipped, 1);
        Checks.due("done", done, 3);
    }

    private static void sameLines() throws IOException {
        String readme = between(Files.readString(Path.of("README.md")), "```java\n", "```");
        String test = Files.readString(Path.of("src/test/java/ReadmeTest.java"));
        Checks.same("the lines of the example", plain(readme),
            plain(between(test, "// README from here\n", "// README to here")));
    }

    private static String between(String text, String from, String to) {
        int start = text.indexOf(from) + from.length();
        return text.substring(start, text.indexOf(to, start));
    }

    private static String plain(String code) {
        return code.replaceAll(" *//.*", "").replaceAll("(?m)^ +", "").strip();
    }
}
