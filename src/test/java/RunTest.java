import java.io.IOException;

/** .ci/run, in small projects of its own: it runs every test, the project's and the shared ones, and fails if one fails. */
public final class RunTest {
    private static final Check CHECK = new Check();
    private static final String RIGHT = "System.out.println(\"ran NAME\"); new WeatherMarbles();";
    private static final String WRONG = RIGHT + " System.exit(1);";
    private static final String BROKEN = "no java";

    public static void main(String[] args) throws IOException, InterruptedException {
        due("all are right", new String[] {RIGHT, RIGHT, RIGHT, RIGHT}, true);
        due("the first own one fails", new String[] {WRONG, RIGHT, RIGHT, RIGHT}, false);
        due("the last own one fails", new String[] {RIGHT, WRONG, RIGHT, RIGHT}, false);
        due("the first shared one fails", new String[] {RIGHT, RIGHT, WRONG, RIGHT}, false);
        due("the last shared one fails", new String[] {RIGHT, RIGHT, RIGHT, WRONG}, false);
        due("an own one does not compile", new String[] {RIGHT, BROKEN, RIGHT, RIGHT}, false);
        due("a shared one does not compile", new String[] {RIGHT, RIGHT, BROKEN, RIGHT}, false);
        due("no own ones", new String[] {null, null, RIGHT, RIGHT}, false);
        due("no shared ones", new String[] {RIGHT, RIGHT, null, null}, false);
        CHECK.finish();
    }

    private static void due(String what, String[] tests, boolean passes) throws IOException, InterruptedException {
        String[] names = {"main/src/test/java/OneTest", "main/src/test/java/TwoTest", "shared/tests/First",
            "shared/tests/Last"};
        try (Workplace place = new Workplace()) {
            place.copy(".ci/run");
            place.put("main/src/main/java/WeatherMarbles.java", "public final class WeatherMarbles { }");
            boolean allCompile = true;
            for (int i = 0; i < names.length; i++) {
                String name = names[i].substring(names[i].lastIndexOf('/') + 1);
                if (tests[i] != null) {
                    place.put(names[i] + ".java", "public final class " + name
                        + " { public static void main(String[] args) { " + tests[i].replace("NAME", name) + " } }");
                }
                allCompile &= tests[i] != null && !tests[i].equals(BROKEN);
            }
            Workplace.Ended ended = place.run("bash .ci/run");
            CHECK.due(what + ": it passes", ended.code() == 0, passes);
            for (int i = 0; i < names.length && allCompile; i++) {
                String name = names[i].substring(names[i].lastIndexOf('/') + 1);
                CHECK.due(what + ": " + name + " ran", ended.printed().contains("ran " + name + "\n"), true);
            }
            CHECK.due(what + ": nothing is left behind", place.has("main/out"), false);
        }
    }
}
