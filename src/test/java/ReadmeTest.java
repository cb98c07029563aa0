import java.io.IOException;
import java.nio.file.Files;
import java.nio.file.Path;
import java.util.List;

/** The README's example, call by call: each call stands there with the answer that it gives. */
final class ReadmeTest {
    private final List<String> lines;

    private ReadmeTest(List<String> lines) {
        this.lines = lines;
    }

    static void run(String readme) throws IOException {
        Due.begin("README");
        ReadmeTest test = new ReadmeTest(Files.readAllLines(Path.of(readme)));
        PlanClauses x = new PlanClauses();
        test.clauses(x);
        test.tasks(x);
        Due.begin("");
    }

    private void clauses(PlanClauses x) {
        shows("x.variables(3);");
        x.variables(3);
        shows("x.literal(1); x.literal(-2);");
        x.literal(1);
        x.literal(-2);
        shows("x.clause();");
        x.clause();
        answers("x.models();", x.models());
        answers("x.value(1);", x.value(1));
    }

    private void tasks(PlanClauses x) {
        shows("x.facts(2);");
        x.facts(2);
        shows("x.action(0, 1, 0);");
        x.action(0, 1, 0);
        shows("x.action(1, 2, 1);");
        x.action(1, 2, 1);
        shows("x.set(1, 2);");
        x.set(1, 2);
        answers("x.shortest();", x.shortest());
        answers("x.step(2, 0);", x.step(2, 0));
        answers("x.step(2, 1);", x.step(2, 1));
        answers("x.state(2, 2);", x.state(2, 2));
    }

    private void shows(String call) {
        Due.holds(call + " in the README", remark(call) != null);
    }

    private void answers(String call, int answer) {
        String remark = remark(call);
        Due.holds(call + " in the README with " + answer,
            remark != null && remark.split(":")[0].equals(String.valueOf(answer)));
    }

    /** What the README says behind a call; null: the call does not stand there. */
    private String remark(String call) {
        for (String line : lines) {
            if (line.startsWith(call)) {
                return line.substring(call.length()).trim().replaceFirst("^// *", "");
            }
        }
        return null;
    }
}
