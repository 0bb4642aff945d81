import java.util.ArrayList;
import java.util.List;
import java.util.concurrent.Callable;

/**
 * "A method that throws an exception changes nothing. If several exceptions apply, the one that is named first is
 * thrown." Each way to be refused is tried on an object in full swing; then it and a twin that was not asked go on
 * side by side, so that a change of what can't be asked for (the words of the text and of the memories) shows too.
 */
public final class RefusedCallsTest {
    private static RelayBooths asked;
    private static RelayBooths twin;

    public static void main(String[] args) {
        Due.sentence("A method that throws an exception changes nothing.");
        oneException();
        Due.sentence("If several exceptions apply, the one that is named first is thrown.");
        severalExceptions();
        Due.sentence("(nothing is changed)");
        questions();
        Due.end("RefusedCallsTest");
    }

    /** Full of booths, interpreters and text, at tick 350, with words in memories, fatigue and second parts. */
    private static RelayBooths busy() {
        RelayBooths x = new RelayBooths();
        for (int b = 0; b < 6; b++) {
            x.addBooth(b % 3, 1 + b, 12 - 2 * b);
        }
        for (int i = 0; i < 8; i++) {
            x.addInterpreter(i == 5 ? 1 : 7, i * 12345);
        }
        for (int b = 0; b < 5; b++) {
            x.sit(b, b);
        }
        x.tune(1, 0);
        x.tune(2, 1);
        x.tune(4, 3);
        for (int i = 0; i < 8; i++) {
            x.speak(61 + i, 3, 40);
            x.pass(40);
        }
        x.speak(79, 1, 40);
        x.pass(30);
        x.speak(97, -1, 40);
        x.rest(9);
        x.speak(70, 7, 40);
        x.speak(83, 5, 20);
        return x;
    }

    private static void refused(Class<?> want, String what, Callable<?> call) {
        Due.refused(asked, want, what, call);
        goOn(what);
    }

    private static void goOn(String what) {
        for (int tick = 350; tick < 400; tick++) {
            Due.is("a tick after " + what, asked.pass(1), twin.pass(1));
            Due.is("digest() some ticks after " + what, asked.digest(), twin.digest());
        }
        start();
    }

    private static void start() {
        asked = busy();
        twin = busy();
    }

    private static void oneException() {
        start();
        Due.is("count(0)", asked.count(0), 350);
        Due.is("count(2)", asked.count(2), 119);
        Due.is("a second part waits", asked.booth(0, 9), 1);
        Due.is("words are in memories", asked.count(8) > 9 ? 1 : 0, 1);
        refused(Due.ARGUMENT, "setFloor(8)", () -> asked.setFloor(8));
        refused(Due.ARGUMENT, "speak(100, 0, 1)", () -> asked.speak(100, 0, 1));
        refused(Due.ARGUMENT, "speak(0, 100, 1)", () -> asked.speak(0, 100, 1));
        refused(Due.ARGUMENT, "speak(0, 0, 0)", () -> asked.speak(0, 0, 0));
        refused(Due.STATE, "speak(0, 0, 2)", () -> asked.speak(0, 0, 2));
        refused(Due.ARGUMENT, "rest(0)", () -> asked.rest(0));
        refused(Due.STATE, "rest(2)", () -> asked.rest(2));
        refused(Due.STATE, "addInterpreter(7, 0)", () -> asked.addInterpreter(7, 0));
        refused(Due.STATE, "addBooth(0, 1, 1)", () -> asked.addBooth(0, 1, 1));
        refused(Due.INDEX, "tune(6, 0)", () -> asked.tune(6, 0));
        refused(Due.INDEX, "tune(1, 6)", () -> asked.tune(1, 6));
        refused(Due.ARGUMENT, "tune(0, 2)", () -> asked.tune(0, 2));
        refused(Due.INDEX, "sit(6, 0)", () -> asked.sit(6, 0));
        refused(Due.INDEX, "sit(0, 8)", () -> asked.sit(0, 8));
        refused(Due.INDEX, "swap(6, 0)", () -> asked.swap(6, 0));
        refused(Due.INDEX, "swap(0, 6)", () -> asked.swap(0, 6));
        refused(Due.ARGUMENT, "swap(0, 0)", () -> asked.swap(0, 0));
        refused(Due.INDEX, "booth(0, 12)", () -> asked.booth(0, 12));
        refused(Due.INDEX, "interpreter(0, 7)", () -> asked.interpreter(0, 7));
        refused(Due.ARGUMENT, "pass(0)", () -> asked.pass(0));
        refused(Due.STATE, "pass(51)", () -> asked.pass(51));
        refused(Due.INDEX, "said(6, 0, true)", () -> asked.said(6, 0, true));
        refused(Due.INDEX, "count(10)", () -> asked.count(10));
        refused(Due.INDEX, "foresee(0, 1, 3)", () -> asked.foresee(0, 1, 3));
        refused(Due.ARGUMENT, "foresee(0, 0, 0)", () -> asked.foresee(0, 0, 0));
        refused(Due.STATE, "foresee(0, 51, 0)", () -> asked.foresee(0, 51, 0));
        refused(Due.INDEX, "advise(6, 1)", () -> asked.advise(6, 1));
        refused(Due.ARGUMENT, "advise(0, 0)", () -> asked.advise(0, 0));
        asked.pass(20);
        twin.pass(20);
        Due.refused(asked, Due.STATE, "advise(0, 31)", () -> asked.advise(0, 31));
        Due.is("pass(30)", asked.pass(30), twin.pass(30));
        Due.is("digest()", asked.digest(), twin.digest());
    }

    private static void severalExceptions() {
        start();
        refused(Due.ARGUMENT, "speak(100, 0, 2)", () -> asked.speak(100, 0, 2));
        refused(Due.ARGUMENT, "speak(0, -100, 2)", () -> asked.speak(0, -100, 2));
        refused(Due.ARGUMENT, "speak(0, 0, 41)", () -> asked.speak(0, 0, 41));
        refused(Due.ARGUMENT, "rest(41)", () -> asked.rest(41));
        refused(Due.ARGUMENT, "addInterpreter(256, 0)", () -> asked.addInterpreter(256, 0));
        refused(Due.ARGUMENT, "addInterpreter(0, 1048576)", () -> asked.addInterpreter(0, 1048576));
        refused(Due.ARGUMENT, "addBooth(8, 1, 1)", () -> asked.addBooth(8, 1, 1));
        refused(Due.ARGUMENT, "addBooth(0, 10, 1)", () -> asked.addBooth(0, 10, 1));
        refused(Due.ARGUMENT, "addBooth(0, 1, 13)", () -> asked.addBooth(0, 1, 13));
        refused(Due.INDEX, "tune(6, 6)", () -> asked.tune(6, 6));
        refused(Due.INDEX, "tune(-1, -1)", () -> asked.tune(-1, -1));
        refused(Due.INDEX, "swap(6, 6)", () -> asked.swap(6, 6));
        refused(Due.INDEX, "swap(-1, -1)", () -> asked.swap(-1, -1));
        refused(Due.ARGUMENT, "pass(101)", () -> asked.pass(101));
        refused(Due.INDEX, "foresee(6, 0, 0)", () -> asked.foresee(6, 0, 0));
        refused(Due.INDEX, "foresee(0, 101, 3)", () -> asked.foresee(0, 101, 3));
        refused(Due.INDEX, "foresee(0, 51, -1)", () -> asked.foresee(0, 51, -1));
        refused(Due.ARGUMENT, "foresee(0, 101, 0)", () -> asked.foresee(0, 101, 0));
        refused(Due.INDEX, "advise(-1, 41)", () -> asked.advise(-1, 41));
        refused(Due.ARGUMENT, "advise(0, 51)", () -> asked.advise(0, 51));
        asked.pass(20);
        twin.pass(20);
        Due.refused(asked, Due.INDEX, "advise(6, 31)", () -> asked.advise(6, 31));
        Due.refused(asked, Due.ARGUMENT, "advise(0, 41)", () -> asked.advise(0, 41));
        Due.is("pass(30)", asked.pass(30), twin.pass(30));
        Due.is("digest()", asked.digest(), twin.digest());
    }

    /** What is only asked, or looked for ahead, changes nothing either. */
    private static void questions() {
        List<Integer> answers = new ArrayList<>();
        for (int booth = 0; booth < 6; booth++) {
            int at = booth;
            unchanged("advise(" + at + ", 40)", () -> asked.advise(at, 40));
            for (int what = 0; what < 3; what++) {
                int fact = what;
                unchanged("foresee(" + at + ", 50, " + fact + ")", () -> asked.foresee(at, 50, fact));
            }
            unchanged("booth(" + at + ", 11)", () -> answers.add(asked.booth(at, 11)));
        }
        unchanged("through()", () -> asked.through());
        unchanged("said(-1, 3, true)", () -> asked.said(-1, 3, true));
    }

    private static void unchanged(String what, Callable<?> question) {
        start();
        try {
            question.call();
        } catch (Exception e) {
            Due.is(what + " threw " + e.getClass().getName(), 1, 0);
        }
        goOn(what);
    }
}
