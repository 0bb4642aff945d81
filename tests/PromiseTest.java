import java.util.concurrent.Callable;

/** One part for each promise of the document: ordinary inputs, the edges that it names, and wrong inputs. */
public final class PromiseTest {
    private static final String INDEX = "IndexOutOfBoundsException";
    private static final String ARGUMENT = "IllegalArgumentException";
    private static final String STATE = "IllegalStateException";
    private static int wrong = 0;
    private static String part = "";

    public static void main(String[] args) throws Exception {
        newObject();
        setFloor();
        speak();
        rest();
        addInterpreter();
        addBooth();
        tune();
        sit();
        swap();
        booth();
        interpreter();
        passLagAndMemory();
        passIdioms();
        passSecondPartOfUnable();
        passFatigue();
        passMistakes();
        passEdges();
        said();
        count();
        foresee();
        advise();
        adviseLeavesAllAsItWas();
        through();
        digest();
        System.out.println(wrong == 0 ? "PromiseTest: all answers are as due" : "PromiseTest: " + wrong + " wrong");
        if (wrong != 0) {
            System.exit(1);
        }
    }

    private static void due(String what, long got, long want) {
        if (got != want) {
            wrong++;
            System.out.println(part + ": " + what + " answered " + got + ", due is " + want);
        }
    }

    /** The call throws this, by its very class, and the state stays what it was. */
    private static void dueThrow(RelayBooths x, String what, Callable<?> call, String want) {
        long before = x.digest();
        String got = "nothing";
        try {
            call.call();
        } catch (Exception e) {
            got = e.getClass().getSimpleName();
        }
        if (!got.equals(want)) {
            wrong++;
            System.out.println(part + ": " + what + " threw " + got + ", due is " + want);
        }
        due("digest after " + what, x.digest(), before);
    }

    /** Booths of language 1 with lag 1 and memory 12 on the floor of language 0, an able interpreter in each. */
    private static RelayBooths staffed(int booths, int idioms) {
        RelayBooths x = new RelayBooths();
        for (int b = 0; b < booths; b++) {
            x.addBooth(1, 1, 12);
            x.addInterpreter(3, idioms);
            x.sit(b, b);
        }
        return x;
    }

    private static void newObject() {
        part = "1 new object";
        RelayBooths x = new RelayBooths();
        for (int what = 0; what < 10; what++) {
            due("count(" + what + ")", x.count(what), 0);
        }
        dueThrow(x, "booth(0, 0)", () -> x.booth(0, 0), INDEX);
        dueThrow(x, "interpreter(0, 0)", () -> x.interpreter(0, 0), INDEX);
        dueThrow(x, "said(-1, 0, false)", () -> x.said(-1, 0, false), INDEX);
        long d = 523L;
        for (int what = 0; what < 10; what++) {
            d *= 31L;
        }
        due("digest()", x.digest(), d);
        RelayBooths other = new RelayBooths();
        other.setFloor(3);
        due("count(1) of another object", x.count(1), 0);
    }

    private static void setFloor() {
        part = "2 setFloor";
        RelayBooths x = staffed(1, 0);
        due("setFloor(7)", x.setFloor(7), 0);
        due("booth(0, 10)", x.booth(0, 10), 0);
        due("setFloor(0)", x.setFloor(0), 7);
        due("booth(0, 10)", x.booth(0, 10), 1);
        due("setFloor(1)", x.setFloor(1), 0);
        due("count(1)", x.count(1), 1);
        for (int language : new int[] {-1, 8, Integer.MIN_VALUE, Integer.MAX_VALUE}) {
            dueThrow(x, "setFloor(" + language + ")", () -> x.setFloor(language), ARGUMENT);
        }
    }

    private static void speak() {
        part = "3 speak";
        RelayBooths x = new RelayBooths();
        due("speak(98, 1, 4)", x.speak(98, 1, 4), 4);
        due("speak(1, -99, 3)", x.speak(1, -99, 3), 7);
        due("speak(99, 99, 40)", x.speak(99, 99, 40), 47);
        x.pass(100);
        int[] words = {98, 99, 0, 1, 1, 2, 3, 99, 98, 97};
        for (int i = 0; i < words.length; i++) {
            due("word " + i, x.said(-1, i, false), words[i]);
        }
        due("last word", x.said(-1, 46, false), 60);
        int[][] wrongOnes = {{-1, 0, 1}, {100, 0, 1}, {0, -100, 1}, {0, 100, 1}, {0, 0, 0}, {0, 0, 41}, {0, 0, -5},
            {Integer.MAX_VALUE, Integer.MIN_VALUE, Integer.MAX_VALUE}};
        for (int[] w : wrongOnes) {
            dueThrow(x, "speak(" + w[0] + ", " + w[1] + ", " + w[2] + ")", () -> x.speak(w[0], w[1], w[2]), ARGUMENT);
        }
        x.speak(0, 0, 40);
        x.speak(0, 0, 40);
        due("speak(0, 0, 39)", x.speak(0, 0, 39), 119);
        dueThrow(x, "speak(0, 0, 2) at 119", () -> x.speak(0, 0, 2), STATE);
        due("speak(0, 0, 1)", x.speak(0, 0, 1), 120);
        dueThrow(x, "speak(0, 0, 1) at 120", () -> x.speak(0, 0, 1), STATE);
        dueThrow(x, "speak(100, 0, 1) at 120", () -> x.speak(100, 0, 1), ARGUMENT);
        x.pass(1);
        due("speak(0, 0, 1) after a tick", x.speak(0, 0, 1), 120);
    }

    private static void rest() {
        part = "4 rest";
        RelayBooths x = new RelayBooths();
        due("rest(2)", x.rest(2), 2);
        due("speak(5, 0, 1)", x.speak(5, 0, 1), 3);
        due("rest(40)", x.rest(40), 43);
        x.pass(10);
        due("count(3)", x.count(3), 1);
        due("count(2)", x.count(2), 33);
        due("tick of the word", x.said(-1, 0, true), 2);
        for (int times : new int[] {0, -1, 41, Integer.MIN_VALUE, Integer.MAX_VALUE}) {
            dueThrow(x, "rest(" + times + ")", () -> x.rest(times), ARGUMENT);
        }
        x.rest(40);
        x.rest(40);
        dueThrow(x, "rest(8) at 113", () -> x.rest(8), STATE);
        due("rest(7)", x.rest(7), 120);
        dueThrow(x, "rest(1) at 120", () -> x.rest(1), STATE);
        dueThrow(x, "rest(0) at 120", () -> x.rest(0), ARGUMENT);
    }

    private static void addInterpreter() {
        part = "5 addInterpreter";
        RelayBooths x = new RelayBooths();
        int[][] wrongOnes = {{-1, 0}, {256, 0}, {0, -1}, {0, 1048576}, {Integer.MAX_VALUE, Integer.MIN_VALUE}};
        for (int[] w : wrongOnes) {
            dueThrow(x, "addInterpreter(" + w[0] + ", " + w[1] + ")", () -> x.addInterpreter(w[0], w[1]), ARGUMENT);
        }
        due("addInterpreter(255, 1048575)", x.addInterpreter(255, 1048575), 0);
        for (int i = 1; i < 8; i++) {
            due("addInterpreter(" + i + ", 0)", x.addInterpreter(i, 0), i);
            due("its booth", x.interpreter(i, 2), -1);
        }
        dueThrow(x, "addInterpreter(0, 0) at 8", () -> x.addInterpreter(0, 0), STATE);
        dueThrow(x, "addInterpreter(256, 0) at 8", () -> x.addInterpreter(256, 0), ARGUMENT);
        due("count(5)", x.count(5), 8);
    }

    private static void addBooth() {
        part = "6 addBooth";
        RelayBooths x = new RelayBooths();
        int[][] wrongOnes = {{-1, 1, 1}, {8, 1, 1}, {0, 0, 1}, {0, 10, 1}, {0, 1, 0}, {0, 1, 13},
            {Integer.MIN_VALUE, Integer.MAX_VALUE, Integer.MIN_VALUE}};
        for (int[] w : wrongOnes) {
            dueThrow(x, "addBooth(" + w[0] + ", " + w[1] + ", " + w[2] + ")", () -> x.addBooth(w[0], w[1], w[2]),
                ARGUMENT);
        }
        due("addBooth(7, 9, 12)", x.addBooth(7, 9, 12), 0);
        for (int b = 1; b < 6; b++) {
            due("addBooth(0, 1, 1)", x.addBooth(0, 1, 1), b);
        }
        due("source", x.booth(5, 3), -1);
        due("who sits there", x.booth(5, 4), -1);
        dueThrow(x, "addBooth(0, 1, 1) at 6", () -> x.addBooth(0, 1, 1), STATE);
        dueThrow(x, "addBooth(8, 1, 1) at 6", () -> x.addBooth(8, 1, 1), ARGUMENT);
        due("count(4)", x.count(4), 6);
    }

    private static void tune() {
        part = "7 tune";
        RelayBooths x = staffed(3, 0);
        due("tune(1, 0)", x.tune(1, 0), -1);
        due("tune(2, 1)", x.tune(2, 1), -1);
        due("tune(2, 1) again", x.tune(2, 1), 1);
        dueThrow(x, "tune(0, 2)", () -> x.tune(0, 2), ARGUMENT);
        dueThrow(x, "tune(0, 1)", () -> x.tune(0, 1), ARGUMENT);
        dueThrow(x, "tune(2, 2)", () -> x.tune(2, 2), ARGUMENT);
        int[][] wrongOnes = {{3, 0}, {-1, 0}, {3, 3}, {0, 3}, {0, -2}, {Integer.MAX_VALUE, Integer.MIN_VALUE}};
        for (int[] w : wrongOnes) {
            dueThrow(x, "tune(" + w[0] + ", " + w[1] + ")", () -> x.tune(w[0], w[1]), INDEX);
        }
        due("tune(1, -1)", x.tune(1, -1), 0);
        due("tune(0, 2) now", x.tune(0, 2), -1);
        due("chain of 0", x.booth(0, 8), 3);
        x.speak(4, 0, 1);
        x.pass(1);
        due("memory of 1 ahead", x.booth(1, 5), 1);
        due("tune(2, -1)", x.tune(2, -1), 1);
        due("tune(1, 0)", x.tune(1, 0), -1);
        due("what is in its memory stays", x.booth(1, 5), 1);
        x.pass(1);
        due("and is said", x.said(1, 0, false), 4);
    }

    private static void sit() {
        part = "8 sit";
        RelayBooths x = new RelayBooths();
        x.addBooth(0, 1, 1);
        x.addBooth(0, 1, 1);
        x.addInterpreter(1, 0);
        x.addInterpreter(1, 0);
        due("sit(0, -1)", x.sit(0, -1), -1);
        due("sit(0, 1)", x.sit(0, 1), -1);
        due("sit(0, 1) again", x.sit(0, 1), 1);
        due("stays", x.interpreter(1, 2), 0);
        due("sit(1, 1)", x.sit(1, 1), -1);
        due("left booth 0", x.booth(0, 4), -1);
        due("sits in booth 1", x.interpreter(1, 2), 1);
        due("sit(1, 0)", x.sit(1, 0), 1);
        due("left booth 1", x.interpreter(1, 2), -1);
        due("sit(0, 1)", x.sit(0, 1), -1);
        due("sit(1, 1)", x.sit(1, 1), 0);
        due("0 sits nowhere", x.interpreter(0, 2), -1);
        due("booth 0 is empty", x.booth(0, 4), -1);
        due("sit(1, -1)", x.sit(1, -1), 1);
        due("1 sits nowhere", x.interpreter(1, 2), -1);
        int[][] wrongOnes = {{-1, 0}, {2, 0}, {0, 2}, {0, -2}, {Integer.MIN_VALUE, Integer.MAX_VALUE}};
        for (int[] w : wrongOnes) {
            dueThrow(x, "sit(" + w[0] + ", " + w[1] + ")", () -> x.sit(w[0], w[1]), INDEX);
        }
    }

    private static void swap() {
        part = "9 swap";
        RelayBooths x = new RelayBooths();
        x.addBooth(1, 1, 1);
        x.addBooth(2, 1, 1);
        x.addBooth(3, 1, 1);
        x.addInterpreter(7, 0);
        x.addInterpreter(3, 0);
        x.sit(0, 0);
        x.sit(1, 1);
        due("able ahead", x.count(9), 1);
        due("swap(0, 1)", x.swap(0, 1), 2);
        due("booth(0, 4)", x.booth(0, 4), 1);
        due("booth(1, 4)", x.booth(1, 4), 0);
        due("interpreter(0, 2)", x.interpreter(0, 2), 1);
        due("interpreter(1, 2)", x.interpreter(1, 2), 0);
        due("swap(2, 1)", x.swap(2, 1), 0);
        due("booth(2, 4)", x.booth(2, 4), 0);
        due("booth(1, 4)", x.booth(1, 4), -1);
        due("swap(2, 1) back", x.swap(2, 1), 1);
        x.sit(0, -1);
        x.sit(1, -1);
        due("swap(0, 1) of empty booths", x.swap(0, 1), 0);
        dueThrow(x, "swap(1, 1)", () -> x.swap(1, 1), ARGUMENT);
        int[][] wrongOnes = {{3, 3}, {-1, 0}, {0, -1}, {0, 3}, {3, 0}};
        for (int[] w : wrongOnes) {
            dueThrow(x, "swap(" + w[0] + ", " + w[1] + ")", () -> x.swap(w[0], w[1]), INDEX);
        }
    }

    private static void booth() {
        part = "10 booth";
        RelayBooths x = new RelayBooths();
        x.addBooth(1, 2, 3);
        x.addBooth(5, 3, 1);
        x.addInterpreter(3, 0);
        x.addInterpreter(255, 0);
        x.sit(0, 0);
        x.sit(1, 1);
        x.tune(1, 0);
        x.speak(85, 4, 2);
        x.pass(3);
        dueFacts(x, 0, new int[] {1, 2, 3, -1, 0, 1, 1, 0, 1, 1, 1, 0});
        dueFacts(x, 1, new int[] {5, 3, 1, 0, 1, 1, 0, 0, 2, 0, 1, 0});
        x.sit(0, -1);
        x.pass(3);
        dueFacts(x, 0, new int[] {1, 2, 3, -1, -1, 0, 1, 2, 1, 0, 0, 0});
        dueFacts(x, 1, new int[] {5, 3, 1, 0, 1, 0, 1, 0, 2, 0, 1, 0});
        x.setFloor(2);
        x.sit(0, 0);
        due("able for its language alone", x.booth(0, 10), 0);
        due("able by its source's language, not the floor's", x.booth(1, 10), 1);
        int[][] wrongOnes = {{-1, 0}, {2, 0}, {0, -1}, {0, 12}, {Integer.MAX_VALUE, Integer.MIN_VALUE}};
        for (int[] w : wrongOnes) {
            dueThrow(x, "booth(" + w[0] + ", " + w[1] + ")", () -> x.booth(w[0], w[1]), INDEX);
        }
        cameThrough();
    }

    private static void dueFacts(RelayBooths x, int booth, int[] facts) {
        for (int what = 0; what < 12; what++) {
            due("booth(" + booth + ", " + what + ")", x.booth(booth, what), facts[what]);
        }
    }

    /** 400 words that come through but for the mistakes: several blocks of 60 words. */
    private static void cameThrough() {
        RelayBooths x = staffed(1, 1048575);
        for (int i = 0; i < 10; i++) {
            x.speak(i, 7, 40);
            x.pass(40);
        }
        int common = common(words(x, -1), words(x, 0));
        due("what came through of 400", x.booth(0, 11), common);
        due("said", x.booth(0, 6), 399);
        due("mistakes were made", x.interpreter(0, 5) > 50 ? 1 : 0, 1);
    }

    private static int[] words(RelayBooths x, int source) {
        int[] words = new int[source < 0 ? x.count(3) : x.booth(source, 6)];
        for (int i = 0; i < words.length; i++) {
            words[i] = x.said(source, i, false);
        }
        return words;
    }

    private static int common(int[] one, int[] other) {
        int[][] table = new int[one.length + 1][other.length + 1];
        for (int i = 1; i <= one.length; i++) {
            for (int k = 1; k <= other.length; k++) {
                table[i][k] = one[i - 1] == other[k - 1] ? table[i - 1][k - 1] + 1
                    : Math.max(table[i - 1][k], table[i][k - 1]);
            }
        }
        return table[one.length][other.length];
    }

    private static void interpreter() {
        part = "11 interpreter";
        RelayBooths x = new RelayBooths();
        x.addBooth(1, 1, 12);
        x.addInterpreter(131, 5);
        x.addInterpreter(2, 1);
        x.sit(0, 0);
        x.speak(80, 1, 3);
        x.pass(5);
        int[] facts = {131, 5, 0, 4, 4, 0, 1};
        for (int what = 0; what < 7; what++) {
            due("interpreter(0, " + what + ")", x.interpreter(0, what), facts[what]);
        }
        int[] idle = {2, 1, -1, 0, 0, 0, 0};
        for (int what = 0; what < 7; what++) {
            due("interpreter(1, " + what + ")", x.interpreter(1, what), idle[what]);
        }
        int[][] wrongOnes = {{-1, 0}, {2, 0}, {0, -1}, {0, 7}, {Integer.MIN_VALUE, Integer.MIN_VALUE}};
        for (int[] w : wrongOnes) {
            dueThrow(x, "interpreter(" + w[0] + ", " + w[1] + ")", () -> x.interpreter(w[0], w[1]), INDEX);
        }
    }

    private static void passLagAndMemory() {
        part = "12 pass: lag and memory";
        RelayBooths x = new RelayBooths();
        x.addBooth(0, 3, 2);
        x.addBooth(0, 1, 12);
        x.addInterpreter(1, 0);
        x.addInterpreter(1, 0);
        x.sit(0, 0);
        x.sit(1, 1);
        x.tune(1, 0);
        x.speak(10, 1, 5);
        due("pass(3)", x.pass(3), 0);
        due("memory", x.booth(0, 5), 2);
        due("lost, for the memory was full", x.booth(0, 7), 1);
        due("pass(1): the first word leaves ahead of the hearing", x.pass(1), 1);
        due("memory", x.booth(0, 5), 2);
        due("lost", x.booth(0, 7), 1);
        due("pass(10)", x.pass(10), 7);
        int[] words = {10, 11, 13, 14};
        int[] ticks = {3, 4, 6, 7};
        due("lost", x.booth(0, 7), 1);
        for (int i = 0; i < 4; i++) {
            due("word " + i, x.said(0, i, false), words[i]);
            due("tick " + i, x.said(0, i, true), ticks[i]);
            due("tick of booth 1, " + i, x.said(1, i, true), ticks[i] + 1);
        }
        due("count(7)", x.count(7), 1);
        RelayBooths empty = new RelayBooths();
        empty.addBooth(0, 1, 12);
        empty.speak(1, 1, 3);
        due("pass(5) with nobody there", empty.pass(5), 0);
        due("lost, for nobody sits there", empty.booth(0, 7), 3);
    }

    private static void passIdioms() {
        part = "12 pass: idioms";
        RelayBooths x = staffed(1, 1 << 19);
        x.speak(99, -1, 2);
        x.speak(80, 0, 1);
        x.speak(79, 0, 1);
        due("pass(2)", x.pass(2), 1);
        due("known idiom", x.said(0, 0, false), 99);
        due("no second part waits", x.booth(0, 9), 0);
        due("pass(1)", x.pass(1), 1);
        due("first part of 98", x.said(0, 1, false), 72);
        due("a second part waits", x.booth(0, 9), 1);
        due("told in other words", x.interpreter(0, 6), 1);
        due("pass(1)", x.pass(1), 1);
        due("second part of 98", x.said(0, 2, false), 73);
        due("still one idiom", x.interpreter(0, 6), 1);
        x.pass(3);
        due("first part of 80", x.said(0, 3, false), 0);
        due("second part of 80", x.said(0, 4, false), 1);
        due("79 is no idiom", x.said(0, 5, false), 79);
        due("told in other words", x.interpreter(0, 6), 2);
        RelayBooths y = staffed(2, 0);
        y.speak(81, 0, 1);
        y.pass(2);
        y.swap(0, 1);
        y.pass(1);
        due("the second part waits in the booth", y.said(0, 1, false), 5);
        due("and the other one says it", y.interpreter(1, 4), 2);
    }

    private static void passSecondPartOfUnable() {
        part = "12 pass: the second part in a booth that is not able";
        RelayBooths x = staffed(1, 0);
        x.speak(1, 0, 3);
        x.speak(90, 1, 2);
        x.pass(5);
        due("a second part waits", x.booth(0, 9), 1);
        due("memory", x.booth(0, 5), 1);
        due("fatigue", x.interpreter(0, 3), 4);
        x.setFloor(5);
        due("pass(1)", x.pass(1), 0);
        due("it waits no more", x.booth(0, 9), 0);
        due("it is lost", x.booth(0, 7), 1);
        due("nothing left the memory", x.booth(0, 5), 1);
        due("nothing is said, so the fatigue is 1 less", x.interpreter(0, 3), 3);
        due("pass(1)", x.pass(1), 0);
        due("the next word is lost", x.booth(0, 7), 2);
        due("and the fatigue is 1 less again", x.interpreter(0, 3), 2);
        RelayBooths y = staffed(1, 0);
        y.speak(90, 0, 1);
        y.rest(1);
        y.speak(7, 0, 1);
        y.pass(2);
        y.sit(0, -1);
        y.pass(1);
        due("it hears all the same", y.booth(0, 5), 1);
        due("lost", y.booth(0, 7), 1);
        due("who left is in no booth: 2 less, at least 0", y.interpreter(0, 3), 0);
        RelayBooths z = staffed(1, 0);
        z.addInterpreter(4, 0);
        z.speak(90, 0, 1);
        z.pass(2);
        z.sit(0, 1);
        due("a second part waits", z.booth(0, 9), 1);
        due("who came is not able", z.booth(0, 10), 0);
        z.pass(1);
        due("it is lost", z.booth(0, 7), 1);
        due("the fatigue of who came stays 0", z.interpreter(1, 3), 0);
    }

    private static void passFatigue() {
        part = "12 pass: fatigue";
        RelayBooths x = staffed(2, 0);
        x.speak(1, 1, 10);
        x.pass(11);
        due("fatigue", x.interpreter(0, 3), 10);
        x.pass(1);
        due("fatigue of who sits silent", x.interpreter(0, 3), 9);
        x.sit(0, -1);
        x.pass(1);
        due("fatigue of who sits in no booth", x.interpreter(0, 3), 7);
        due("fatigue of who sits silent", x.interpreter(1, 3), 8);
        x.pass(4);
        due("fatigue is at least 0", x.interpreter(0, 3), 0);
        due("fatigue of who sits silent", x.interpreter(1, 3), 4);
        x.pass(9);
        due("fatigue is at least 0", x.interpreter(1, 3), 0);
        due("words stay told", x.interpreter(0, 4), 10);
    }

    private static void passMistakes() {
        part = "12 pass: mistakes";
        RelayBooths x = staffed(1, 0);
        x.speak(0, 1, 21);
        x.speak(50, 1, 1);
        x.speak(60, 1, 2);
        x.speak(79, 0, 1);
        x.pass(30);
        due("word 20 is said well, though tired", x.said(0, 20, false), 20);
        due("word 21 is a mistake", x.said(0, 21, false), 51);
        due("word 22 is said well", x.said(0, 22, false), 60);
        due("word 24: 79 as 0", x.said(0, 24, false), 0);
        due("mistakes", x.interpreter(0, 5), 2);
        due("not tired at word 18", x.said(0, 18, false), 18);
        RelayBooths rested = staffed(1, 0);
        rested.speak(0, 1, 21);
        rested.rest(1);
        rested.speak(30, 0, 1);
        rested.pass(23);
        due("fatigue ahead of word 21", rested.interpreter(0, 3), 20);
        rested.pass(1);
        due("a fatigue of 20 is enough", rested.said(0, 21, false), 31);
        RelayBooths awake = staffed(1, 0);
        awake.speak(0, 1, 21);
        awake.rest(2);
        awake.speak(30, 0, 1);
        awake.pass(25);
        due("a fatigue of 19 is not", awake.said(0, 21, false), 30);
        RelayBooths y = staffed(1, 1);
        y.speak(0, 1, 20);
        y.speak(80, 0, 20);
        y.pass(41);
        due("idioms that are said as they are", y.interpreter(0, 5), 0);
        due("the word of an idiom", y.said(0, 21, false), 80);
        RelayBooths z = staffed(1, 0);
        z.speak(0, 1, 20);
        z.speak(85, 0, 3);
        z.pass(40);
        due("first part of the first idiom", z.said(0, 20, false), 20);
        due("mistaken second part", z.said(0, 21, false), 22);
        due("first part of the third idiom", z.said(0, 24, false), 21);
        due("its second part is by the idiom", z.said(0, 25, false), 21);
        due("mistakes", z.interpreter(0, 5), 2);
    }

    private static void passEdges() {
        part = "12 pass: edges";
        RelayBooths x = new RelayBooths();
        for (int ticks : new int[] {0, -1, 101, Integer.MIN_VALUE, Integer.MAX_VALUE}) {
            dueThrow(x, "pass(" + ticks + ")", () -> x.pass(ticks), ARGUMENT);
        }
        x.pass(100);
        x.pass(100);
        x.pass(100);
        x.pass(99);
        dueThrow(x, "pass(2) at 399", () -> x.pass(2), STATE);
        due("pass(1) at 399", x.pass(1), 0);
        due("tick", x.count(0), 400);
        dueThrow(x, "pass(1) at 400", () -> x.pass(1), STATE);
        dueThrow(x, "pass(0) at 400", () -> x.pass(0), ARGUMENT);
    }

    private static void said() {
        part = "13 said";
        RelayBooths x = staffed(1, 0);
        x.rest(1);
        x.speak(7, 1, 2);
        x.pass(3);
        due("said(-1, 1, false)", x.said(-1, 1, false), 8);
        due("said(-1, 1, true)", x.said(-1, 1, true), 2);
        due("said(0, 0, false)", x.said(0, 0, false), 7);
        due("said(0, 0, true)", x.said(0, 0, true), 2);
        int[][] wrongOnes = {{-1, 2}, {-1, -1}, {0, 1}, {0, -1}, {1, 0}, {-2, 0},
            {Integer.MAX_VALUE, Integer.MAX_VALUE}, {Integer.MIN_VALUE, 0}, {0, Integer.MIN_VALUE}};
        for (int[] w : wrongOnes) {
            dueThrow(x, "said(" + w[0] + ", " + w[1] + ", true)", () -> x.said(w[0], w[1], true), INDEX);
            dueThrow(x, "said(" + w[0] + ", " + w[1] + ", false)", () -> x.said(w[0], w[1], false), INDEX);
        }
    }

    private static void count() {
        part = "14 count";
        RelayBooths x = staffed(2, 0);
        x.setFloor(1);
        x.addBooth(0, 9, 1);
        x.speak(80, 1, 5);
        x.rest(2);
        x.pass(4);
        int[] counts = {4, 1, 3, 4, 3, 2, 6, 3, 5, 2};
        for (int what = 0; what < 10; what++) {
            due("count(" + what + ")", x.count(what), counts[what]);
        }
        for (int what : new int[] {-1, 10, Integer.MIN_VALUE, Integer.MAX_VALUE}) {
            dueThrow(x, "count(" + what + ")", () -> x.count(what), INDEX);
        }
    }

    private static void foresee() {
        part = "15 foresee";
        RelayBooths x = staffed(2, 0);
        x.tune(1, 0);
        x.speak(1, 1, 20);
        x.speak(85, 1, 20);
        x.pass(5);
        long before = x.digest();
        int[] foreseen = {x.foresee(1, 50, 0), x.foresee(1, 50, 1), x.foresee(1, 50, 2)};
        due("digest", x.digest(), before);
        due("foresee(0, 1, 2)", x.foresee(0, 1, 2), 5);
        due("foresee(0, 1, 0)", x.foresee(0, 1, 0), 5);
        int[][] wrongOnes = {{-1, 0, 3}, {2, 1, 0}, {0, 0, -1}, {0, 1, 3}, {Integer.MAX_VALUE, 1, 0}};
        for (int[] w : wrongOnes) {
            dueThrow(x, "foresee(" + w[0] + ", " + w[1] + ", " + w[2] + ")", () -> x.foresee(w[0], w[1], w[2]), INDEX);
        }
        for (int ticks : new int[] {0, -1, 101, Integer.MAX_VALUE}) {
            dueThrow(x, "foresee(0, " + ticks + ", 0)", () -> x.foresee(0, ticks, 0), ARGUMENT);
        }
        x.pass(50);
        due("came through as foreseen", x.booth(1, 11), foreseen[0]);
        due("lost as foreseen", x.booth(1, 7), foreseen[1]);
        due("said as foreseen", x.booth(1, 6), foreseen[2]);
        x.pass(100);
        x.pass(100);
        x.pass(100);
        dueThrow(x, "foresee(0, 46, 0) at 355", () -> x.foresee(0, 46, 0), STATE);
        dueThrow(x, "foresee(0, 101, 0) at 355", () -> x.foresee(0, 101, 0), ARGUMENT);
        due("foresee(0, 45, 1) at 355", x.foresee(0, 45, 1), x.booth(0, 7));
    }

    private static void advise() {
        part = "16 advise";
        RelayBooths x = new RelayBooths();
        x.addBooth(1, 1, 12);
        x.addBooth(1, 1, 12);
        due("advise(0, 40) with no interpreter", x.advise(0, 40), -1);
        x.addInterpreter(1, 0);
        due("advise(0, 40) with one who is not able", x.advise(0, 40), 0);
        x.addInterpreter(3, 0);
        x.addInterpreter(3, 1048575);
        x.addInterpreter(3, 1048575);
        x.speak(75, 1, 10);
        due("the smallest number of the best", x.advise(0, 40), 2);
        x.sit(1, 2);
        due("who sits elsewhere stays", x.advise(0, 40), 3);
        x.sit(0, 3);
        due("who sits there counts", x.advise(0, 40), 3);
        x.sit(1, 3);
        x.sit(0, 0);
        due("who sits there is not the best", x.advise(0, 40), 2);
        due("one tick is too few: the smallest number", x.advise(0, 1), 0);
        x.sit(0, 2);
        x.sit(1, 3);
        int[][] wrongOnes = {{-1, 0}, {2, 1}, {Integer.MIN_VALUE, 41}};
        for (int[] w : wrongOnes) {
            dueThrow(x, "advise(" + w[0] + ", " + w[1] + ")", () -> x.advise(w[0], w[1]), INDEX);
        }
        for (int ticks : new int[] {0, -1, 41, Integer.MIN_VALUE}) {
            dueThrow(x, "advise(0, " + ticks + ")", () -> x.advise(0, ticks), ARGUMENT);
        }
        x.pass(100);
        x.pass(100);
        x.pass(100);
        x.pass(90);
        due("advise(0, 10) at 390", x.advise(0, 10), 0);
        dueThrow(x, "advise(0, 11) at 390", () -> x.advise(0, 11), STATE);
        dueThrow(x, "advise(0, 41) at 390", () -> x.advise(0, 41), ARGUMENT);
    }

    private static void adviseLeavesAllAsItWas() {
        part = "16 advise: nothing is changed";
        RelayBooths x = staffed(2, 0);
        x.addInterpreter(3, 1048575);
        x.speak(75, 1, 30);
        x.pass(10);
        long before = x.digest();
        due("advise(0, 40)", x.advise(0, 40), 2);
        due("digest", x.digest(), before);
        x.sit(0, -1);
        x.sit(1, -1);
        RelayBooths all = staffed(1, 0);
        all.addBooth(1, 1, 1);
        due("none is free", all.advise(1, 5), -1);
    }

    private static void through() {
        part = "17 through";
        RelayBooths x = new RelayBooths();
        dueDouble("no booths, no words", x.through(), 0.0);
        x.speak(1, 1, 3);
        x.pass(2);
        dueDouble("no booths", x.through(), 0.0);
        RelayBooths y = staffed(3, 0);
        dueDouble("no words", y.through(), 0.0);
        y.sit(2, -1);
        y.tune(1, 0);
        y.speak(1, 1, 7);
        y.pass(7);
        dueDouble("6 and 5 and 0 of 3 times 7", y.through(), 11.0 / 21.0);
        y.pass(7);
        dueDouble("7 and 7 and 0 of 3 times 7", y.through(), 14.0 / 21.0);
    }

    private static void dueDouble(String what, double got, double want) {
        if (got != want) {
            wrong++;
            System.out.println(part + ": " + what + " answered " + got + ", due is " + want);
        }
    }

    private static void digest() {
        part = "18 digest";
        RelayBooths x = staffed(2, 3);
        x.tune(1, 0);
        x.addInterpreter(200, 77);
        x.speak(70, 1, 30);
        x.rest(3);
        x.pass(33);
        long d = 523L;
        for (int what = 0; what < 10; what++) {
            d = d * 31L + x.count(what);
        }
        for (int i = 0; i < 3; i++) {
            for (int what = 0; what < 7; what++) {
                d = d * 31L + x.interpreter(i, what);
            }
        }
        for (int b = 0; b < 2; b++) {
            for (int what = 0; what < 12; what++) {
                d = d * 31L + x.booth(b, what);
            }
        }
        for (int source = -1; source < 2; source++) {
            int size = source < 0 ? x.count(3) : x.booth(source, 6);
            for (int i = 0; i < size; i++) {
                d = d * 31L + x.said(source, i, false);
                d = d * 31L + x.said(source, i, true);
            }
        }
        due("digest()", x.digest(), d);
        due("digest() again", x.digest(), d);
    }
}
