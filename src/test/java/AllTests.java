/** Runs every test of the project; ends with exit code 1 if one fails. */
public final class AllTests {
    /** The arguments are the paths of the program's source, of the document and of README.md. */
    public static void main(String[] args) {
        Checks checks = new Checks();
        SentenceRunner.run(checks, args.length > 1 ? args[1] : "../shared/DOC.md");
        LanguageTest.run(checks, args.length > 0 ? args[0] : "src/main/java/ReshapedTexts.java");
        ReadmeTest.run(checks, args.length > 2 ? args[2] : "README.md");
        RoomTest.run(checks);
        ModelTest.run(checks);
        System.exit(checks.exitCode());
    }
}
