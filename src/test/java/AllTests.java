/** Runs every test of the project; ends with exit code 1 if one fails. */
public final class AllTests {
    public static void main(String[] args) {
        Checks checks = new Checks();
        ModelTest.run(checks);
        System.exit(checks.exitCode());
    }
}
