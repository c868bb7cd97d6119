import java.io.IOException;
import java.lang.reflect.Method;
import java.lang.reflect.Modifier;
import java.nio.file.DirectoryStream;
import java.nio.file.Files;
import java.nio.file.Path;
import java.util.ArrayList;
import java.util.Arrays;
import java.util.List;
import java.util.TreeMap;
import java.util.TreeSet;
import java.util.regex.Matcher;
import java.util.regex.Pattern;

/** README.md is true: its example answers as it says, its commands work, its tables have all calls and all tests. */
public final class ReadmeTest {
    private static final Check CHECK = new Check();
    private static final Pattern SAID = Pattern.compile("^ *say\\(.*\\); *(?:// ([^:]+): .+)?$", Pattern.MULTILINE);

    public static void main(String[] args) throws IOException, InterruptedException {
        String page = Files.readString(Path.of("README.md"));
        List<String> programs = blocks(page, "java");
        List<String> commands = blocks(page, "sh");
        CHECK.due("programs shown", programs.size(), 1);
        CHECK.due("commands shown: the example, all tests, one test", commands.size(), 3);
        if (programs.size() == 1 && commands.size() == 3) {
            dueExample(programs.get(0), commands.get(0));
            dueAllTests(commands.get(1));
            dueOneTest(commands.get(2));
        }
        dueCalls(page);
        dueTests(page);
        CHECK.finish();
    }

    private static List<String> blocks(String page, String language) {
        List<String> found = new ArrayList<>();
        Matcher blocks = Pattern.compile("^```" + language + "\n(.*?)^```$", Pattern.MULTILINE | Pattern.DOTALL)
            .matcher(page);
        while (blocks.find()) {
            found.add(blocks.group(1));
        }
        return found;
    }

    private static void dueExample(String program, String commands) throws IOException, InterruptedException {
        List<String> told = new ArrayList<>();
        Matcher said = SAID.matcher(program);
        while (said.find()) {
            // the one line without an answer is the one that throws
            if (said.group(1) == null) {
                CHECK.due("an answer is told: " + said.group(), said.group().contains("x.boy("), true);
            } else {
                told.add(said.group(1));
            }
        }
        CHECK.due("the example says something", told.size() > 20, true);
        try (Workplace place = new Workplace()) {
            place.copy("src/main/java/WeatherMarbles.java");
            place.put("main/Example.java", program);
            Workplace.Ended ended = place.run(commands);
            CHECK.due("the example ends", ended.code(), 0);
            String[] printed = ended.printed().split("\n");
            CHECK.due("lines of the example", printed.length, told.size());
            for (int i = 0; i < Math.min(printed.length, told.size()); i++) {
                boolean same = printed[i].equals(told.get(i));
                CHECK.due("line " + i + " of the example: " + printed[i] + ", told: " + told.get(i), same, true);
            }
        }
    }

    /** RunTest says what the script does; here it is the one that the page names. */
    private static void dueAllTests(String command) {
        CHECK.due("the command for all tests: " + command, command.equals("bash .ci/run\n"), true);
        CHECK.due("it is there", Files.isRegularFile(Path.of(".ci/run")), true);
    }

    private static void dueOneTest(String commands) throws IOException, InterruptedException {
        try (Workplace place = new Workplace()) {
            place.copy("src/main/java/WeatherMarbles.java");
            for (String name : testFiles("*.java")) {
                place.copy("src/test/java/" + name + ".java");
            }
            place.linkShared();
            Workplace.Ended ended = place.run(commands);
            CHECK.due("one test ends", ended.code(), 0);
            CHECK.due("one test prints: " + ended.printed(), ended.printed().endsWith(", 0 not as due\n"), true);
        }
    }

    private static void dueCalls(String page) {
        String[] rows = rowsOf(page, "| calls |");
        TreeSet<String> named = new TreeSet<>();
        for (String row : rows) {
            Matcher names = Pattern.compile("`(\\w+)`").matcher(row.split("\\|")[1]);
            while (names.find()) {
                CHECK.due("told once: " + names.group(1), named.add(names.group(1)), true);
            }
        }
        TreeSet<String> face = new TreeSet<>();
        for (Method method : WeatherMarbles.class.getDeclaredMethods()) {
            if (Modifier.isPublic(method.getModifiers())) {
                face.add(method.getName());
            }
        }
        CHECK.due("calls told " + named + ", calls there are " + face, named.equals(face), true);
        CHECK.due("NONE", page.contains("`NONE` is " + WeatherMarbles.NONE + ","), true);
        CHECK.due("HIDDEN", page.replace('\n', ' ').contains("`HIDDEN` is " + WeatherMarbles.HIDDEN + "."), true);
        dueRefusals(rows);
    }

    /** What the table's last column says of calls that are refused. */
    private static void dueRefusals(String[] rows) {
        TreeMap<String, String> due = new TreeMap<>();
        WeatherMarbles x = new WeatherMarbles();
        refuseTexts(x, due);
        refuseActs(x, due);
        refuseQuestions(x, due);
        for (String row : rows) {
            String[] columns = row.split("\\|");
            for (String call : columns[1].trim().split(" ")) {
                String want = due.get(call.replace("`", ""));
                CHECK.due(call + " refused: " + columns[3] + ", due is " + want, columns[3].trim().equals(want), true);
            }
        }
    }

    private static void refuseTexts(WeatherMarbles x, TreeMap<String, String> due) {
        due.put("fault", x.fault(2) + "; " + named(x.text(0)));
        due.put("text", due.get("fault"));
        Check.feed(x, "b".repeat(240));
        due.put("feed", named(x.feed(1, 0, 0, 0, 0)) + "; " + x.end(241));
        due.put("end", due.get("feed"));
        due.put("law", "" + x.law(0));
        due.put("spills", "" + x.spills(10));
    }

    private static void refuseActs(WeatherMarbles x, TreeMap<String, String> due) {
        String counted = ", counted by `status`";
        due.put("play", named(x.play(0, 1, 1, 1)) + counted);
        due.put("swap", named(x.swap(0, 1)) + counted);
        due.put("give", named(x.give(0, 0)) + counted);
        due.put("chip", named(x.chip(0)) + counted);
        due.put("swallow", named(x.swallow(0)) + counted);
        due.put("days", named(x.days(1)) + counted);
        due.put("years", named(x.years(1, 1)));
        due.put("undo", named(x.undo()));
        due.put("image", named(x.image()));
        due.put("back", named(x.back()));
        due.put("seen", named(x.seen(0, 0, true)));
        CHECK.due("counted by status", x.status(0), 6);
    }

    private static void refuseQuestions(WeatherMarbles x, TreeMap<String, String> due) {
        String count = "; `count` " + named(x.count(13));
        due.put("count", "`NONE`" + count);
        due.put("rule", named(x.rule(0)) + count);
        due.put("farm", named(x.farm(0, 0)) + count);
        due.put("hands", named(x.hands(0)) + count);
        due.put("status", named(x.status(5)) + count);
        due.put("log", named(x.log(0, 0)) + count);
        due.put("boy", Check.boyThrows(x, 0, 0) ? "throws `NoSuchElementException`" : "");
        due.put("marble", named(x.marble(0, 0)));
        due.put("weather", named(x.weather(0)));
        due.put("wins", named(x.wins(0, 1, 1, 1)));
        due.put("game", named(x.game(0, 1, 1, 1, 0)));
        due.put("lands", named(x.lands(0, 0, 1)));
        due.put("aim", named(x.aim(0, 0)));
        due.put("rests", named(x.rests(0, 1, -1)));
        due.put("odds", named(x.odds(0, 1, 1, 1, 0)));
        due.put("spell", named(x.spell(0, 0)));
        due.put("arrange", named(x.arrange(0)));
        due.put("pays", named(x.pays()));
        due.put("saves", named(x.saves(1)));
        due.put("who", named(x.who(-1)));
        due.put("best", named(x.best()));
        due.put("corner", named(x.corner(0)));
        due.put("liking", named(x.liking(0, 0)));
        due.put("trades", named(x.trades(-1)));
        due.put("shares", named(x.shares(0, 0)));
        due.put("most", named(x.most(0)));
    }

    private static String named(int answer) {
        return answer == WeatherMarbles.NONE ? "`NONE`" : answer == WeatherMarbles.HIDDEN ? "`HIDDEN`" : "" + answer;
    }

    /** The rows of the table that has this head. */
    private static String[] rowsOf(String page, String head) {
        int start = page.indexOf("\n" + head);
        int end = page.indexOf("\n\n", start);
        if (start < 0 || end < 0) {
            CHECK.due("a table " + head, 0, 1);
            return new String[0];
        }
        String[] lines = page.substring(start + 1, end).split("\n");
        return Arrays.copyOfRange(lines, 2, lines.length);
    }

    private static void dueTests(String page) throws IOException {
        TreeSet<String> told = new TreeSet<>();
        for (String row : rowsOf(page, "| test |")) {
            told.addAll(List.of(row.split("\\|")[1].trim().split(", ")));
        }
        TreeSet<String> there = testFiles("*Test.java");
        CHECK.due("tests told " + told + ", tests there are " + there, told.equals(there), true);
    }

    private static TreeSet<String> testFiles(String pattern) throws IOException {
        TreeSet<String> names = new TreeSet<>();
        try (DirectoryStream<Path> files = Files.newDirectoryStream(Path.of("src/test/java"), pattern)) {
            for (Path file : files) {
                names.add(file.getFileName().toString().replace(".java", ""));
            }
        }
        return names;
    }
}
