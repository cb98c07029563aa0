import java.io.IOException;

/** Runs every test of the project; its arguments are the paths of the program's file, the document and the README. */
public final class AllTests {
    private AllTests() {
    }

    public static void main(String[] args) throws IOException {
        ClausesTest.run();
        TasksTest.run();
        Sentences.run(args[1], ClausesBoundsTest.class, TasksBoundsTest.class, TermsBoundsTest.class,
            RefusalsTest.class);
        OracleTest.run();
        HardTest.run();
        RoomTest.run();
        LanguageTest.run(args[0]);
        ReadmeTest.run(args[2]);
        System.out.println(Due.asked() + " answers asked, " + Due.wrong() + " wrong");
        if (Due.wrong() > 0) {
            System.exit(1);
        }
    }
}
