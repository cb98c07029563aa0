import java.io.IOException;

/** Runs every test of the project; its argument is the path of the program's file. */
public final class AllTests {
    private AllTests() {
    }

    public static void main(String[] args) throws IOException {
        ClausesTest.run();
        TasksTest.run();
        OracleTest.run();
        HardTest.run();
        RoomTest.run();
        LanguageTest.run(args[0]);
        System.out.println(Due.asked() + " answers asked, " + Due.wrong() + " wrong");
        if (Due.wrong() > 0) {
            System.exit(1);
        }
    }
}
