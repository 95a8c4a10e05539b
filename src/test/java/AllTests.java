/** Runs every test of the project; ends with exit code 1 if one fails. */
public final class AllTests {
    /** The one argument is the path of the program's source. */
    public static void main(String[] args) {
        Checks checks = new Checks();
        PromiseTests.run(checks);
        LanguageTest.run(checks, args.length > 0 ? args[0] : "src/main/java/ReshapedTexts.java");
        RoomTest.run(checks);
        ModelTest.run(checks);
        System.exit(checks.exitCode());
    }
}
