import java.io.IOException;
import java.lang.reflect.Method;
import java.nio.file.Files;
import java.nio.file.Path;
import java.util.List;
import java.util.stream.Collectors;
import java.util.stream.Stream;

/** README.md says how to use the class: its example is made here, call by call, and it names every test and call. */
public final class ReadmeTest {
    private static String readme = "";
    private static String example = "";

    public static void main(String[] args) throws IOException {
        readme = Files.readString(Path.of("README.md"));
        Due.sentence("README.md says how to use the class");
        int start = readme.indexOf("```java\n");
        int end = readme.indexOf("```\n", start + 1);
        Due.is("there is an example", start >= 0 && end > start ? 1 : 0, 1);
        if (start >= 0 && end > start) {
            example = readme.substring(start, end);
        }
        example();
        Due.sentence("README.md names every call");
        everyCall();
        Due.sentence("README.md names every test");
        everyTest();
        Due.end("ReadmeTest");
    }

    private static void line(String call, String comment) {
        boolean isThere = example.lines().anyMatch(l -> l.startsWith(call + " ") && l.endsWith("// " + comment));
        Due.is("the example holds \"" + call + " // " + comment + "\"", isThere ? 1 : 0, 1);
    }

    private static void example() {
        RelayBooths summit = new RelayBooths();
        line("int booth = summit.addBooth(1, 2, 4);", "language 1, lag 2, memory of 4 words");
        int booth = summit.addBooth(1, 2, 4);
        line("int interpreter = summit.addInterpreter(3, 0);", "languages 0 and 1, no idioms");
        int interpreter = summit.addInterpreter(3, 0);
        line("summit.sit(booth, interpreter);", "-1: nobody sat there");
        Due.is("sit(booth, interpreter)", summit.sit(booth, interpreter), -1);
        line("summit.speak(5, 1, 6);", "the words 5, 6, 7, 8, 9, 10");
        Due.is("speak(5, 1, 6)", summit.speak(5, 1, 6), 6);
        line("summit.foresee(booth, 5, 0);", "3 would have come through in 5 ticks");
        Due.is("foresee(booth, 5, 0)", summit.foresee(booth, 5, 0), 3);
        line("summit.pass(10);", "10 ticks go by; 6 words are said in the booth");
        Due.is("pass(10)", summit.pass(10), 6);
        Due.saidAre(summit, -1, 5, 6, 7, 8, 9, 10);
        line("summit.said(booth, 0, true);", "the first of them at tick 2");
        Due.is("said(booth, 0, true)", summit.said(booth, 0, true), 2);
        line("summit.booth(booth, 11);", "6 of them came through");
        Due.is("booth(booth, 11)", summit.booth(booth, 11), 6);
        line("summit.through();", "1.0: all of the speech");
        Due.isDouble("through()", summit.through(), 1.0);
        Due.is("lines of the example", example.lines().filter(l -> l.contains("summit")).count(), 10);
    }

    private static void everyCall() {
        for (Method m : RelayBooths.class.getMethods()) {
            if (m.getDeclaringClass() == RelayBooths.class) {
                Due.is(m.getName() + " is named", readme.contains("`" + m.getName() + "`") ? 1 : 0, 1);
            }
        }
    }

    private static void everyTest() throws IOException {
        List<String> tests;
        try (Stream<Path> files = Files.list(Path.of("tests"))) {
            tests = files.filter(Files::isRegularFile).map(f -> "tests/" + f.getFileName()).sorted()
                .collect(Collectors.toList());
        }
        for (String test : tests) {
            Due.is(test + " is named", readme.contains("`" + test + "`") ? 1 : 0, 1);
        }
    }
}
