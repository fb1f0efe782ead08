import java.io.IOException;
import java.nio.file.Files;
import java.nio.file.Path;
import java.util.ArrayList;
import java.util.List;

/** The example of README.md answers what README.md says, and each test stands in its table. */
public final class ReadmeTest {
    private static final Checks CHECKS = new Checks();

    public static void main(String[] arguments) throws IOException {
        String readme = Files.readString(Path.of("README.md"));
        List<Long> told = told(readme);
        List<Long> answers = answers();
        CHECKS.due("the number of answers in README.md", told.size(), answers.size());
        for (int index = 0; index < told.size() && index < answers.size(); index++) {
            CHECKS.due("answer " + index + " of the example", answers.get(index), told.get(index));
        }
        try (var files = Files.list(Path.of("src", "test", "java"))) {
            files.map(file -> file.getFileName().toString().replace(".java", "")).filter(name -> name.endsWith("Test"))
                .forEach(name -> CHECKS.holds("README.md tells of " + name, readme.contains("| `" + name + "` |")));
        }
        CHECKS.finish("ReadmeTest");
    }

    /** The number that stands at the start of each comment in the example. */
    private static List<Long> told(String readme) {
        String start = "```java\n";
        String example = readme.substring(readme.indexOf(start) + start.length());
        List<Long> told = new ArrayList<>();
        for (String line : example.substring(0, example.indexOf("```")).split("\n")) {
            String comment = line.contains("// ") ? line.substring(line.indexOf("// ") + 3) : "";
            if (comment.matches("-?\\d.*")) {
                told.add(Long.valueOf(comment.replaceAll("(-?\\d+).*", "$1")));
            }
        }
        return told;
    }

    /** What the calls of the example answer that have a number behind them. */
    private static List<Long> answers() {
        List<Long> answers = new ArrayList<>();
        GradeGraph graph = new GradeGraph();
        int source = graph.addNode(GradeGraph.SOURCE);
        int gain = graph.addNode(GradeGraph.GAIN);
        answers.add((long) source);
        answers.add((long) gain);
        answers.add((long) graph.connect(gain, 0, source));
        answers.add((long) graph.set(gain, 0, 32));
        answers.add((long) graph.value(gain, 1, 2, 0, 0));
        answers.add((long) graph.sum(gain, 1, 0, 1));
        answers.add((long) graph.scope(gain, 1, 0, 15));
        answers.add((long) graph.compare(source, gain, 1));
        answers.add((long) graph.count(2));
        answers.add((long) graph.set(source, 0, 5));
        answers.add((long) graph.isCached(gain, 1));
        String text = "b(n(1),i(n(0)),k(n(0),0,100,200,9))";
        for (int index = 0; index < text.length(); index++) {
            graph.append(text.charAt(index));
        }
        answers.add((long) graph.faultPosition());
        answers.add((long) graph.build());
        answers.add((long) graph.node(4, 5));
        answers.add((long) graph.save(0));
        answers.add((long) graph.clear());
        answers.add((long) graph.value(gain, 1, 2, 0, 0));
        answers.add((long) graph.restore(0));
        return answers;
    }
}
