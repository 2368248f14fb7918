import java.io.IOException;
import java.nio.file.Files;
import java.nio.file.Path;
import java.util.ArrayList;
import java.util.List;

/** That the example in README.md answers what its remarks say. */
final class ReadmeTest {
    private static final List<String> ANSWERS = new ArrayList<>();

    public static void main(String[] args) throws IOException {
        example();
        Check.same("the answers that README.md tells", told().toString(), ANSWERS.toString());
        Check.end();
    }

    /** The statements of README.md, as they stand there, but for what takes the answers down. */
    private static void example() {
        AttributeKinds x = new AttributeKinds();
        int root = x.symbol(1, 0);
        int inner = x.symbol(2, 1);
        int top = x.production(root, inner, AttributeKinds.NONE, AttributeKinds.NONE);
        int leaf = x.production(
                inner, AttributeKinds.NONE, AttributeKinds.NONE, AttributeKinds.NONE);
        x.depend(top, 0, 8 + 1);
        x.depend(leaf, 1, 0);
        answer("graphs(inner)", x.graphs(inner));
        answer("circular()", x.circular());
        answer("strong()", x.strong());
        answer("doubly()", x.doubly());
        answer("relation(inner, 1, false)", x.relation(inner, 1, false));
        answer("relation(inner, 0, true)", x.relation(inner, 0, true));
        answer("pass(inner, 1, false)", x.pass(inner, 1, false));
        answer("passes(false)", x.passes(false));
        x.depend(top, 8 + 0, 8 + 1);
        answer("circular()", x.circular());
        answer("relation(inner, 0, true)", x.relation(inner, 0, true));
        answer("passes(true)", x.passes(true));
    }

    private static void answer(String call, Object answer) {
        ANSWERS.add("x." + call + "; // " + answer);
    }

    /** The lines of the example that begin with a question, up to the answer's own words. */
    private static List<String> told() throws IOException {
        List<String> lines = new ArrayList<>();
        for (String line : Files.readAllLines(Path.of("README.md"))) {
            if (line.startsWith("x.") && line.contains("//") && !line.startsWith("x.depend")) {
                lines.add(line.replaceAll(" +//", " //").replaceAll(":.*", ""));
            }
        }
        return lines;
    }
}
