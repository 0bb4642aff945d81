import java.math.BigInteger;
import java.util.ArrayList;
import java.util.List;

/** Each sentence of the promises 1 to 18 that names an edge or a wrong input has a test of its own here. */
public final class EdgesOfPromisesTest {
    public static void main(String[] args) {
        newObjectIsEmpty();
        setFloorLanguage();
        setFloorReturnsTheOneBefore();
        speakWord();
        speakStep();
        speakTimes();
        speakByTheRemainderOf100();
        speakMoreThan120();
        restTimes();
        restMoreThan120();
        restAddsPauses();
        addInterpreterLanguages();
        addInterpreterIdioms();
        addInterpreterAt8();
        addBoothLanguage();
        addBoothLag();
        addBoothMemory();
        addBoothAt6();
        tuneNoSuchBooth();
        tuneBackToItself();
        tuneKeepsTheMemory();
        tuneReturnsTheSourceBefore();
        sitNoSuch();
        sitNobody();
        sitLeavesTheBoothBefore();
        sitAlreadyThere();
        swapNoSuchBooth();
        swapTheSame();
        swapIfNobodySitsInOne();
        swapReturnsHowManyAreAble();
        boothNoSuch();
        boothFactsAtTheirEdges();
        interpreterNoSuch();
        interpreterFactsAtTheirEdges();
        passTicks();
        passBeyond400();
        passReturnsTheWordsOfBooths();
        saidNoSuch();
        saidNotSoMany();
        countNoSuch();
        countOfAll();
        foreseeNoSuch();
        foreseeTicks();
        foreseeBeyond400();
        foreseeInAll();
        foreseeFromNowOn();
        adviseNoSuchBooth();
        adviseTicks();
        adviseBeyond400();
        adviseNone();
        adviseOfSeveralTheSmallest();
        adviseOfThoseInNoBoothAndTheOneThere();
        adviseInSoManyTicks();
        throughNothing();
        throughDivided();
        digestOfANewObject();
        digestWrapsAround();
        Due.end("EdgesOfPromisesTest");
    }

    private static void newObjectIsEmpty() {
        Due.sentence("1: Creates a summit without booths and interpreters, at the tick 0.");
        RelayBooths x = new RelayBooths();
        for (int what = 0; what < 10; what++) {
            Due.is("count(" + what + ")", x.count(what), 0);
        }
        Due.refused(x, Due.INDEX, "booth(0, 0)", () -> x.booth(0, 0));
        Due.refused(x, Due.INDEX, "interpreter(0, 0)", () -> x.interpreter(0, 0));
        Due.refused(x, Due.INDEX, "said(-1, 0, false)", () -> x.said(-1, 0, false));
        Due.refused(x, Due.INDEX, "said(0, 0, false)", () -> x.said(0, 0, false));
        Due.refused(x, Due.INDEX, "tune(0, -1)", () -> x.tune(0, -1));
        Due.refused(x, Due.INDEX, "sit(0, -1)", () -> x.sit(0, -1));
        Due.refused(x, Due.INDEX, "swap(0, 1)", () -> x.swap(0, 1));
        Due.refused(x, Due.INDEX, "foresee(0, 1, 0)", () -> x.foresee(0, 1, 0));
        Due.refused(x, Due.INDEX, "advise(0, 1)", () -> x.advise(0, 1));
        Due.isDouble("through()", x.through(), 0.0);
        Due.is("pass(1)", x.pass(1), 0);
        Due.is("another one is at the tick 0", new RelayBooths().count(0), 0);
    }

    private static void setFloorLanguage() {
        Due.sentence("2: Throws IllegalArgumentException if language is not 0 to 7");
        RelayBooths x = new RelayBooths();
        x.setFloor(4);
        for (int language : Due.outside(0, 7)) {
            Due.refused(x, Due.ARGUMENT, "setFloor(" + language + ")", () -> x.setFloor(language));
        }
        Due.is("setFloor(0)", x.setFloor(0), 4);
        Due.is("setFloor(7)", x.setFloor(7), 0);
        Due.is("count(1)", x.count(1), 7);
    }

    private static void setFloorReturnsTheOneBefore() {
        Due.sentence("2: Returns the language before.");
        RelayBooths x = new RelayBooths();
        Due.is("setFloor(3)", x.setFloor(3), 0);
        Due.is("setFloor(3) again", x.setFloor(3), 3);
        Due.is("setFloor(0)", x.setFloor(0), 3);
    }

    private static void speakWord() {
        Due.sentence("3: Throws IllegalArgumentException if word is not 0 to 99");
        RelayBooths x = new RelayBooths();
        for (int word : Due.outside(0, 99)) {
            Due.refused(x, Due.ARGUMENT, "speak(" + word + ", 0, 1)", () -> x.speak(word, 0, 1));
        }
        Due.is("speak(0, 0, 1)", x.speak(0, 0, 1), 1);
        Due.is("speak(99, 0, 1)", x.speak(99, 0, 1), 2);
        x.pass(2);
        Due.saidAre(x, -1, 0, 99);
    }

    private static void speakStep() {
        Due.sentence("3: Throws IllegalArgumentException if step is not -99 to 99");
        RelayBooths x = new RelayBooths();
        for (int step : Due.outside(-99, 99)) {
            Due.refused(x, Due.ARGUMENT, "speak(0, " + step + ", 1)", () -> x.speak(0, step, 1));
        }
        Due.is("speak(50, -99, 3)", x.speak(50, -99, 3), 3);
        Due.is("speak(50, 99, 3)", x.speak(50, 99, 3), 6);
        x.pass(6);
        Due.saidAre(x, -1, 50, 51, 52, 50, 49, 48);
    }

    private static void speakTimes() {
        Due.sentence("3: Throws IllegalArgumentException if times is not 1 to 40");
        RelayBooths x = new RelayBooths();
        for (int times : Due.outside(1, 40)) {
            Due.refused(x, Due.ARGUMENT, "speak(0, 0, " + times + ")", () -> x.speak(0, 0, times));
        }
        Due.is("speak(9, 1, 1)", x.speak(9, 1, 1), 1);
        Due.is("speak(10, 1, 40)", x.speak(10, 1, 40), 41);
        x.pass(41);
        for (int i = 0; i < 41; i++) {
            Due.is("word " + i, x.said(-1, i, false), 9 + i);
        }
    }

    private static void speakByTheRemainderOf100() {
        Due.sentence("3: each by a step greater than the one ahead (by the remainder of 100, 0 to 99)");
        RelayBooths x = new RelayBooths();
        x.speak(98, 1, 4);
        x.speak(1, -1, 4);
        x.speak(99, 99, 3);
        x.speak(0, -99, 3);
        x.speak(0, -50, 3);
        x.pass(17);
        Due.saidAre(x, -1, 98, 99, 0, 1, 1, 0, 99, 98, 99, 98, 97, 0, 1, 2, 0, 50, 0);
        RelayBooths far = new RelayBooths();
        far.speak(99, 99, 40);
        far.speak(0, -99, 40);
        far.pass(80);
        Due.is("99 and 39 * 99", far.said(-1, 39, false), 60);
        Due.is("0 less 39 * 99", far.said(-1, 79, false), 39);
    }

    private static void speakMoreThan120() {
        Due.sentence("3: Throws IllegalStateException if there would be more than 120");
        RelayBooths x = new RelayBooths();
        x.speak(0, 0, 40);
        x.rest(40);
        x.speak(0, 0, 1);
        Due.refused(x, Due.STATE, "speak(0, 0, 40) at 81", () -> x.speak(0, 0, 40));
        Due.is("speak(0, 0, 39) at 81", x.speak(0, 0, 39), 120);
        Due.refused(x, Due.STATE, "speak(0, 0, 1) at 120", () -> x.speak(0, 0, 1));
        x.pass(1);
        Due.refused(x, Due.STATE, "speak(0, 0, 2) at 119", () -> x.speak(0, 0, 2));
        Due.is("speak(0, 0, 1) at 119", x.speak(0, 0, 1), 120);
    }

    private static void restTimes() {
        Due.sentence("4: Throws IllegalArgumentException if times is not 1 to 40");
        RelayBooths x = new RelayBooths();
        for (int times : Due.outside(1, 40)) {
            Due.refused(x, Due.ARGUMENT, "rest(" + times + ")", () -> x.rest(times));
        }
        Due.is("rest(1)", x.rest(1), 1);
        Due.is("rest(40)", x.rest(40), 41);
    }

    private static void restMoreThan120() {
        Due.sentence("4: Throws IllegalStateException if there would be more than 120");
        RelayBooths x = new RelayBooths();
        x.rest(40);
        x.speak(0, 0, 40);
        x.rest(1);
        Due.refused(x, Due.STATE, "rest(40) at 81", () -> x.rest(40));
        Due.is("rest(39) at 81", x.rest(39), 120);
        Due.refused(x, Due.STATE, "rest(1) at 120", () -> x.rest(1));
        x.pass(1);
        Due.refused(x, Due.STATE, "rest(2) at 119", () -> x.rest(2));
        Due.is("rest(1) at 119", x.rest(1), 120);
    }

    private static void restAddsPauses() {
        Due.sentence("4: Adds pauses at the end of the text.");
        RelayBooths x = new RelayBooths();
        x.speak(7, 0, 1);
        x.rest(40);
        x.speak(8, 0, 1);
        x.pass(50);
        Due.saidAre(x, -1, 7, 8);
        Due.saidAt(x, -1, 0, 41);
    }

    private static void addInterpreterLanguages() {
        Due.sentence("5: Throws IllegalArgumentException if languages is not 0 to 255");
        RelayBooths x = new RelayBooths();
        for (int languages : Due.outside(0, 255)) {
            Due.refused(x, Due.ARGUMENT, "addInterpreter(" + languages + ", 0)", () -> x.addInterpreter(languages, 0));
        }
        Due.is("addInterpreter(0, 0)", x.addInterpreter(0, 0), 0);
        Due.is("addInterpreter(255, 0)", x.addInterpreter(255, 0), 1);
        Due.is("interpreter(0, 0)", x.interpreter(0, 0), 0);
        Due.is("interpreter(1, 0)", x.interpreter(1, 0), 255);
    }

    private static void addInterpreterIdioms() {
        Due.sentence("5: Throws IllegalArgumentException if idioms is not 0 to 1048575");
        RelayBooths x = new RelayBooths();
        for (int idioms : Due.outside(0, 1048575)) {
            Due.refused(x, Due.ARGUMENT, "addInterpreter(0, " + idioms + ")", () -> x.addInterpreter(0, idioms));
        }
        Due.is("addInterpreter(0, 0)", x.addInterpreter(0, 0), 0);
        Due.is("addInterpreter(0, 1048575)", x.addInterpreter(0, 1048575), 1);
        Due.is("interpreter(0, 1)", x.interpreter(0, 1), 0);
        Due.is("interpreter(1, 1)", x.interpreter(1, 1), 1048575);
    }

    private static void addInterpreterAt8() {
        Due.sentence("5: Throws IllegalStateException if there are 8");
        RelayBooths x = new RelayBooths();
        for (int i = 0; i < 8; i++) {
            Due.is("addInterpreter(1, 1)", x.addInterpreter(1, 1), i);
        }
        Due.refused(x, Due.STATE, "addInterpreter(1, 1) at 8", () -> x.addInterpreter(1, 1));
        Due.is("count(5)", x.count(5), 8);
    }

    private static void addBoothLanguage() {
        Due.sentence("6: Throws IllegalArgumentException if language is not 0 to 7");
        RelayBooths x = new RelayBooths();
        for (int language : Due.outside(0, 7)) {
            Due.refused(x, Due.ARGUMENT, "addBooth(" + language + ", 1, 1)", () -> x.addBooth(language, 1, 1));
        }
        Due.is("addBooth(0, 1, 1)", x.addBooth(0, 1, 1), 0);
        Due.is("addBooth(7, 1, 1)", x.addBooth(7, 1, 1), 1);
        Due.is("booth(0, 0)", x.booth(0, 0), 0);
        Due.is("booth(1, 0)", x.booth(1, 0), 7);
    }

    private static void addBoothLag() {
        Due.sentence("6: Throws IllegalArgumentException if lag is not 1 to 9");
        RelayBooths x = new RelayBooths();
        for (int lag : Due.outside(1, 9)) {
            Due.refused(x, Due.ARGUMENT, "addBooth(0, " + lag + ", 1)", () -> x.addBooth(0, lag, 1));
        }
        Due.is("addBooth(0, 1, 1)", x.addBooth(0, 1, 1), 0);
        Due.is("addBooth(0, 9, 1)", x.addBooth(0, 9, 1), 1);
        Due.is("booth(0, 1)", x.booth(0, 1), 1);
        Due.is("booth(1, 1)", x.booth(1, 1), 9);
    }

    private static void addBoothMemory() {
        Due.sentence("6: Throws IllegalArgumentException if memory is not 1 to 12");
        RelayBooths x = new RelayBooths();
        for (int memory : Due.outside(1, 12)) {
            Due.refused(x, Due.ARGUMENT, "addBooth(0, 1, " + memory + ")", () -> x.addBooth(0, 1, memory));
        }
        Due.is("addBooth(0, 1, 1)", x.addBooth(0, 1, 1), 0);
        Due.is("addBooth(0, 1, 12)", x.addBooth(0, 1, 12), 1);
        Due.is("booth(0, 2)", x.booth(0, 2), 1);
        Due.is("booth(1, 2)", x.booth(1, 2), 12);
    }

    private static void addBoothAt6() {
        Due.sentence("6: Throws IllegalStateException if there are 6");
        RelayBooths x = new RelayBooths();
        for (int b = 0; b < 6; b++) {
            Due.is("addBooth(1, 1, 1)", x.addBooth(1, 1, 1), b);
        }
        Due.refused(x, Due.STATE, "addBooth(1, 1, 1) at 6", () -> x.addBooth(1, 1, 1));
        Due.is("count(4)", x.count(4), 6);
    }

    private static void tuneNoSuchBooth() {
        Due.sentence("7: Throws IndexOutOfBoundsException if there is no such booth");
        RelayBooths x = Due.booths(3, 0);
        for (int booth : Due.outside(0, 2)) {
            Due.refused(x, Due.INDEX, "tune(" + booth + ", -1)", () -> x.tune(booth, -1));
            Due.refused(x, Due.INDEX, "tune(" + booth + ", 0)", () -> x.tune(booth, 0));
        }
        for (int source : Due.outside(-1, 2)) {
            Due.refused(x, Due.INDEX, "tune(0, " + source + ")", () -> x.tune(0, source));
        }
        Due.is("tune(0, 2)", x.tune(0, 2), -1);
        Due.is("tune(2, -1)", x.tune(2, -1), -1);
        Due.is("tune(1, 0)", x.tune(1, 0), -1);
    }

    private static void tuneBackToItself() {
        Due.sentence("7: Throws IllegalArgumentException if it would come back to itself by sources");
        RelayBooths x = Due.booths(4, 0);
        for (int b = 0; b < 4; b++) {
            int booth = b;
            Due.refused(x, Due.ARGUMENT, "tune(" + booth + ", " + booth + ")", () -> x.tune(booth, booth));
        }
        x.tune(1, 0);
        Due.refused(x, Due.ARGUMENT, "tune(0, 1)", () -> x.tune(0, 1));
        x.tune(2, 1);
        Due.refused(x, Due.ARGUMENT, "tune(0, 2)", () -> x.tune(0, 2));
        x.tune(3, 2);
        Due.refused(x, Due.ARGUMENT, "tune(0, 3)", () -> x.tune(0, 3));
        Due.refused(x, Due.ARGUMENT, "tune(1, 3)", () -> x.tune(1, 3));
        Due.is("tune(3, 0)", x.tune(3, 0), 2);
        Due.is("tune(1, 3)", x.tune(1, 3), 0);
        Due.is("tune(2, 1)", x.tune(2, 1), 1);
    }

    private static void tuneKeepsTheMemory() {
        Due.sentence("7: (what is in its memory stays)");
        RelayBooths x = Due.booths(2, 0);
        x.addBooth(1, 4, 3);
        x.sit(2, 1);
        x.speak(60, 1, 4);
        x.pass(3);
        Due.is("held", x.booth(2, 5), 3);
        Due.is("tune(2, 0)", x.tune(2, 0), -1);
        Due.is("held", x.booth(2, 5), 3);
        x.pass(3);
        Due.saidAre(x, 2, 60, 61);
        Due.saidAt(x, 2, 4, 5);
    }

    private static void tuneReturnsTheSourceBefore() {
        Due.sentence("7: Returns the source before, likewise (-1 for the floor).");
        RelayBooths x = Due.booths(2, 0);
        Due.is("tune(1, -1)", x.tune(1, -1), -1);
        Due.is("tune(1, 0)", x.tune(1, 0), -1);
        Due.is("tune(1, 0) again", x.tune(1, 0), 0);
        Due.is("tune(1, -1)", x.tune(1, -1), 0);
        Due.is("booth(1, 3)", x.booth(1, 3), -1);
    }

    private static void sitNoSuch() {
        Due.sentence("8: Throws IndexOutOfBoundsException if there is no such booth or interpreter");
        RelayBooths x = Due.booths(2, 0);
        x.addInterpreter(0, 0);
        for (int booth : Due.outside(0, 1)) {
            Due.refused(x, Due.INDEX, "sit(" + booth + ", 0)", () -> x.sit(booth, 0));
            Due.refused(x, Due.INDEX, "sit(" + booth + ", -1)", () -> x.sit(booth, -1));
        }
        for (int interpreter : Due.outside(-1, 2)) {
            Due.refused(x, Due.INDEX, "sit(0, " + interpreter + ")", () -> x.sit(0, interpreter));
        }
        Due.is("sit(1, 2)", x.sit(1, 2), 1);
        Due.is("sit(0, -1)", x.sit(0, -1), 0);
    }

    private static void sitNobody() {
        Due.sentence("8: interpreter: the interpreter; -1 for nobody. Returns who sat there; -1 for nobody.");
        RelayBooths x = Due.booths(1, 0);
        Due.is("sit(0, -1)", x.sit(0, -1), 0);
        Due.is("sit(0, -1) again", x.sit(0, -1), -1);
        Due.is("booth(0, 4)", x.booth(0, 4), -1);
        Due.is("interpreter(0, 2)", x.interpreter(0, 2), -1);
        Due.is("sit(0, 0)", x.sit(0, 0), -1);
        Due.is("interpreter(0, 2)", x.interpreter(0, 2), 0);
    }

    private static void sitLeavesTheBoothBefore() {
        Due.sentence("8: this one leaves the booth where this one sat, and who sat there leaves");
        RelayBooths x = Due.booths(3, 0);
        Due.is("sit(2, 0)", x.sit(2, 0), 2);
        int[] sitters = {-1, 1, 0};
        int[] places = {2, 1, -1};
        for (int k = 0; k < 3; k++) {
            Due.is("booth(" + k + ", 4)", x.booth(k, 4), sitters[k]);
            Due.is("interpreter(" + k + ", 2)", x.interpreter(k, 2), places[k]);
        }
        Due.is("count(9)", x.count(9), 2);
    }

    private static void sitAlreadyThere() {
        Due.sentence("8: (who sits there already stays)");
        RelayBooths x = Due.booths(2, 0);
        Due.is("sit(1, 1)", x.sit(1, 1), 1);
        Due.is("booth(1, 4)", x.booth(1, 4), 1);
        Due.is("interpreter(1, 2)", x.interpreter(1, 2), 1);
        Due.is("booth(1, 10)", x.booth(1, 10), 1);
        Due.is("booth(0, 4)", x.booth(0, 4), 0);
    }

    private static void swapNoSuchBooth() {
        Due.sentence("9: Throws IndexOutOfBoundsException if there is no such booth");
        RelayBooths x = Due.booths(3, 0);
        for (int booth : Due.outside(0, 2)) {
            Due.refused(x, Due.INDEX, "swap(" + booth + ", 0)", () -> x.swap(booth, 0));
            Due.refused(x, Due.INDEX, "swap(0, " + booth + ")", () -> x.swap(0, booth));
        }
        Due.is("swap(0, 2)", x.swap(0, 2), 2);
        Due.is("booth(0, 4)", x.booth(0, 4), 2);
        Due.is("booth(2, 4)", x.booth(2, 4), 0);
    }

    private static void swapTheSame() {
        Due.sentence("9: Throws IllegalArgumentException if both are the same");
        RelayBooths x = Due.booths(2, 0);
        x.sit(1, -1);
        Due.refused(x, Due.ARGUMENT, "swap(0, 0)", () -> x.swap(0, 0));
        Due.refused(x, Due.ARGUMENT, "swap(1, 1)", () -> x.swap(1, 1));
        Due.is("booth(0, 4)", x.booth(0, 4), 0);
    }

    private static void swapIfNobodySitsInOne() {
        Due.sentence("9: (also if nobody sits in one)");
        RelayBooths x = Due.booths(3, 0);
        x.sit(1, -1);
        x.sit(2, -1);
        Due.is("swap(0, 1)", x.swap(0, 1), 1);
        Due.is("booth(0, 4)", x.booth(0, 4), -1);
        Due.is("booth(1, 4)", x.booth(1, 4), 0);
        Due.is("interpreter(0, 2)", x.interpreter(0, 2), 1);
        Due.is("swap(0, 1) back", x.swap(0, 1), 1);
        Due.is("booth(0, 4)", x.booth(0, 4), 0);
        Due.is("booth(1, 4)", x.booth(1, 4), -1);
        Due.is("interpreter(0, 2)", x.interpreter(0, 2), 0);
        Due.is("swap(1, 2), nobody in both", x.swap(1, 2), 0);
        Due.is("booth(1, 4)", x.booth(1, 4), -1);
        Due.is("booth(2, 4)", x.booth(2, 4), -1);
    }

    private static void swapReturnsHowManyAreAble() {
        Due.sentence("9: Returns how many of the two booths are able then.");
        RelayBooths x = new RelayBooths();
        for (int language = 1; language <= 3; language++) {
            x.addBooth(language, 1, 1);
        }
        x.addInterpreter(5, 0);
        x.addInterpreter(3, 0);
        x.addInterpreter(9, 0);
        x.sit(0, 0);
        x.sit(1, 1);
        x.sit(2, 2);
        Due.is("able ahead", x.count(9), 1);
        Due.is("swap(0, 1)", x.swap(0, 1), 2);
        Due.is("swap(1, 0)", x.swap(1, 0), 0);
        Due.is("swap(1, 2)", x.swap(1, 2), 0);
        Due.is("swap(0, 2)", x.swap(0, 2), 1);
    }

    private static void boothNoSuch() {
        Due.sentence("10: Throws IndexOutOfBoundsException if there is no such booth, or what is not 0 to 11");
        RelayBooths x = Due.booths(2, 0);
        for (int booth : Due.outside(0, 1)) {
            Due.refused(x, Due.INDEX, "booth(" + booth + ", 0)", () -> x.booth(booth, 0));
        }
        for (int what : Due.outside(0, 11)) {
            Due.refused(x, Due.INDEX, "booth(1, " + what + ")", () -> x.booth(1, what));
        }
        Due.is("booth(1, 0)", x.booth(1, 0), 1);
        Due.is("booth(1, 11)", x.booth(1, 11), 0);
    }

    private static void boothFacts(RelayBooths x, int booth, int... due) {
        for (int what = 0; what < 12; what++) {
            Due.is("booth(" + booth + ", " + what + ")", x.booth(booth, what), due[what]);
        }
    }

    private static void boothFactsAtTheirEdges() {
        Due.sentence("10: -1 for the floor, -1 for nobody, itself counted, 1 if a second part waits, else 0, 1 if it is "
            + "able, else 0");
        RelayBooths x = new RelayBooths();
        x.addBooth(7, 9, 12);
        boothFacts(x, 0, 7, 9, 12, -1, -1, 0, 0, 0, 1, 0, 0, 0);
        x.addBooth(6, 1, 1);
        x.addInterpreter(193, 0);
        x.sit(1, 0);
        x.speak(5, 75, 2);
        x.pass(3);
        boothFacts(x, 1, 6, 1, 1, -1, 0, 0, 2, 0, 1, 1, 1, 1);
        boothFacts(x, 0, 7, 9, 12, -1, -1, 2, 0, 0, 1, 0, 0, 0);
        x.pass(8);
        x.tune(1, 0);
        boothFacts(x, 0, 7, 9, 12, -1, -1, 0, 0, 2, 1, 0, 0, 0);
        boothFacts(x, 1, 6, 1, 1, 0, 0, 0, 3, 0, 2, 0, 1, 1);
        x.addBooth(0, 1, 1);
        x.tune(0, 2);
        Due.is("booth(1, 8) behind two others", x.booth(1, 8), 3);
    }

    private static void interpreterNoSuch() {
        Due.sentence("11: Throws IndexOutOfBoundsException if there is no such interpreter, or what is not 0 to 6");
        RelayBooths x = Due.booths(2, 9);
        for (int interpreter : Due.outside(0, 1)) {
            Due.refused(x, Due.INDEX, "interpreter(" + interpreter + ", 0)", () -> x.interpreter(interpreter, 0));
        }
        for (int what : Due.outside(0, 6)) {
            Due.refused(x, Due.INDEX, "interpreter(1, " + what + ")", () -> x.interpreter(1, what));
        }
        Due.is("interpreter(1, 0)", x.interpreter(1, 0), 3);
        Due.is("interpreter(1, 6)", x.interpreter(1, 6), 0);
    }

    private static void interpreterFacts(RelayBooths x, int interpreter, int... due) {
        for (int what = 0; what < 7; what++) {
            Due.is("interpreter(" + interpreter + ", " + what + ")", x.interpreter(interpreter, what), due[what]);
        }
    }

    private static void interpreterFactsAtTheirEdges() {
        Due.sentence("11: 2 the booth where this one sits, -1 for none, 3 the fatigue, 4 the words that this one said, 5 "
            + "the mistakes, 6 the idioms that were told in other words");
        RelayBooths x = Due.booths(1, 2);
        x.addInterpreter(255, 1048575);
        interpreterFacts(x, 1, 255, 1048575, -1, 0, 0, 0, 0);
        x.speak(1, 0, 22);
        x.speak(80, 1, 2);
        x.pass(23);
        interpreterFacts(x, 0, 3, 2, 0, 22, 22, 1, 0);
        x.pass(1);
        interpreterFacts(x, 0, 3, 2, 0, 23, 23, 1, 1);
        x.pass(3);
        interpreterFacts(x, 0, 3, 2, 0, 24, 25, 1, 1);
        x.sit(0, -1);
        interpreterFacts(x, 0, 3, 2, -1, 24, 25, 1, 1);
    }

    private static void passTicks() {
        Due.sentence("12: Throws IllegalArgumentException if ticks is not 1 to 100");
        RelayBooths x = Due.booths(1, 0);
        for (int ticks : Due.outside(1, 100)) {
            Due.refused(x, Due.ARGUMENT, "pass(" + ticks + ")", () -> x.pass(ticks));
        }
        x.pass(1);
        Due.is("count(0) after pass(1)", x.count(0), 1);
        x.pass(100);
        Due.is("count(0) after pass(100)", x.count(0), 101);
    }

    /** An object at this tick, with one able booth. */
    private static RelayBooths atTick(int tick) {
        RelayBooths x = Due.booths(1, 0);
        for (int left = tick; left > 0; left -= 100) {
            x.pass(Math.min(left, 100));
        }
        return x;
    }

    private static void passBeyond400() {
        Due.sentence("12: Throws IllegalStateException if the tick would be greater than 400");
        RelayBooths x = atTick(301);
        Due.refused(x, Due.STATE, "pass(100) at 301", () -> x.pass(100));
        Due.is("pass(99) at 301", x.pass(99), 0);
        Due.is("count(0)", x.count(0), 400);
        Due.refused(x, Due.STATE, "pass(1) at 400", () -> x.pass(1));
        RelayBooths y = atTick(300);
        Due.is("pass(100) at 300", y.pass(100), 0);
        RelayBooths z = atTick(399);
        Due.refused(z, Due.STATE, "pass(2) at 399", () -> z.pass(2));
        Due.is("pass(1) at 399", z.pass(1), 0);
    }

    private static void passReturnsTheWordsOfBooths() {
        Due.sentence("12: Returns how many words booths said in them.");
        RelayBooths none = new RelayBooths();
        none.speak(1, 0, 9);
        Due.is("pass(10) without booths", none.pass(10), 0);
        RelayBooths x = Due.chain(2, 0);
        x.speak(80, 0, 1);
        x.speak(1, 0, 3);
        int[] due = {0, 1, 2, 2, 2, 2, 1, 0, 0};
        for (int tick = 0; tick < due.length; tick++) {
            Due.is("pass(1) at " + tick, x.pass(1), due[tick]);
        }
        x.speak(1, 0, 3);
        x.sit(1, -1);
        Due.is("lost words are not said, pass(10)", x.pass(10), 3);
        x.speak(1, 0, 3);
        x.sit(1, 1);
        Due.is("pass(10) in one call", x.pass(10), 6);
    }

    private static void saidNoSuch() {
        Due.sentence("13: Throws IndexOutOfBoundsException if there is no such booth");
        RelayBooths x = Due.booths(2, 0);
        x.speak(7, 0, 1);
        x.pass(2);
        for (int source : Due.outside(-1, 1)) {
            Due.refused(x, Due.INDEX, "said(" + source + ", 0, false)", () -> x.said(source, 0, false));
            Due.refused(x, Due.INDEX, "said(" + source + ", 0, true)", () -> x.said(source, 0, true));
        }
        Due.is("said(-1, 0, false)", x.said(-1, 0, false), 7);
        Due.is("said(1, 0, true)", x.said(1, 0, true), 1);
    }

    private static void saidNotSoMany() {
        Due.sentence("13: Throws IndexOutOfBoundsException if it did not say so many");
        RelayBooths x = Due.booths(2, 0);
        x.sit(1, -1);
        x.speak(7, 1, 3);
        x.pass(3);
        for (int index : Due.outside(0, 2)) {
            Due.refused(x, Due.INDEX, "said(-1, " + index + ", false)", () -> x.said(-1, index, false));
            Due.refused(x, Due.INDEX, "said(-1, " + index + ", true)", () -> x.said(-1, index, true));
        }
        for (int index : Due.outside(0, 1)) {
            Due.refused(x, Due.INDEX, "said(0, " + index + ", false)", () -> x.said(0, index, false));
            Due.refused(x, Due.INDEX, "said(0, " + index + ", true)", () -> x.said(0, index, true));
        }
        Due.refused(x, Due.INDEX, "said(1, 0, false)", () -> x.said(1, 0, false));
        Due.is("said(-1, 2, false)", x.said(-1, 2, false), 9);
        Due.is("said(-1, 2, true)", x.said(-1, 2, true), 2);
        Due.is("said(0, 1, false)", x.said(0, 1, false), 8);
        Due.is("said(0, 1, true)", x.said(0, 1, true), 2);
    }

    private static void countNoSuch() {
        Due.sentence("14: Throws IndexOutOfBoundsException if what is not 0 to 9");
        RelayBooths x = Due.booths(2, 0);
        for (int what : Due.outside(0, 9)) {
            Due.refused(x, Due.INDEX, "count(" + what + ")", () -> x.count(what));
        }
        Due.is("count(0)", x.count(0), 0);
        Due.is("count(9)", x.count(9), 2);
    }

    private static void countOfAll() {
        Due.sentence("14: Returns how many there are.");
        RelayBooths x = Due.chain(2, 0);
        x.addBooth(0, 9, 2);
        x.addInterpreter(0, 0);
        x.sit(2, 2);
        x.speak(80, 0, 1);
        x.speak(2, 0, 4);
        x.rest(3);
        x.pass(5);
        int[] due = {5, 0, 3, 5, 3, 3, 7, 3, 5, 2};
        for (int what = 0; what < 10; what++) {
            Due.is("count(" + what + ")", x.count(what), due[what]);
        }
    }

    private static void foreseeNoSuch() {
        Due.sentence("15: Throws IndexOutOfBoundsException if there is no such booth, or what is not 0 to 2");
        RelayBooths x = Due.booths(2, 0);
        for (int booth : Due.outside(0, 1)) {
            Due.refused(x, Due.INDEX, "foresee(" + booth + ", 1, 0)", () -> x.foresee(booth, 1, 0));
        }
        for (int what : Due.outside(0, 2)) {
            Due.refused(x, Due.INDEX, "foresee(1, 1, " + what + ")", () -> x.foresee(1, 1, what));
        }
        x.speak(1, 0, 3);
        Due.is("foresee(1, 3, 0)", x.foresee(1, 3, 0), 2);
        Due.is("foresee(1, 3, 2)", x.foresee(1, 3, 2), 2);
    }

    private static void foreseeTicks() {
        Due.sentence("15: Throws IllegalArgumentException if ticks is not 1 to 100");
        RelayBooths x = Due.booths(1, 0);
        for (int i = 0; i < 3; i++) {
            x.speak(1, 1, 40);
        }
        for (int ticks : Due.outside(1, 100)) {
            Due.refused(x, Due.ARGUMENT, "foresee(0, " + ticks + ", 2)", () -> x.foresee(0, ticks, 2));
        }
        Due.is("foresee(0, 1, 2)", x.foresee(0, 1, 2), 0);
        Due.is("foresee(0, 2, 2)", x.foresee(0, 2, 2), 1);
        Due.is("foresee(0, 100, 2)", x.foresee(0, 100, 2), 99);
    }

    private static void foreseeBeyond400() {
        Due.sentence("15: Throws IllegalStateException if the tick would be greater than 400");
        RelayBooths x = atTick(301);
        Due.refused(x, Due.STATE, "foresee(0, 100, 0) at 301", () -> x.foresee(0, 100, 0));
        Due.is("foresee(0, 99, 0) at 301", x.foresee(0, 99, 0), 0);
        RelayBooths y = atTick(400);
        Due.refused(y, Due.STATE, "foresee(0, 1, 0) at 400", () -> y.foresee(0, 1, 0));
        RelayBooths z = atTick(399);
        Due.is("foresee(0, 1, 1) at 399", z.foresee(0, 1, 1), 0);
        Due.refused(z, Due.STATE, "foresee(0, 2, 1) at 399", () -> z.foresee(0, 2, 1));
    }

    private static void foreseeInAll() {
        Due.sentence("15: the words that it would have lost, in all; said, in all; if so many ticks went by from now on "
            + "(nothing is changed)");
        RelayBooths x = Due.chain(2, 0);
        RelayBooths twin = Due.chain(2, 0);
        for (RelayBooths each : new RelayBooths[] {x, twin}) {
            each.speak(80, 1, 10);
            each.rest(5);
            each.speak(30, 1, 40);
            each.sit(1, -1);
            each.pass(3);
            each.sit(1, 1);
            each.pass(2);
        }
        for (int ticks = 1; ticks <= 100; ticks++) {
            twin.pass(1);
            for (int b = 0; b < 2; b++) {
                Due.is("foresee(" + b + ", " + ticks + ", 0)", x.foresee(b, ticks, 0), twin.booth(b, 11));
                Due.is("foresee(" + b + ", " + ticks + ", 1)", x.foresee(b, ticks, 1), twin.booth(b, 7));
                Due.is("foresee(" + b + ", " + ticks + ", 2)", x.foresee(b, ticks, 2), twin.booth(b, 6));
            }
        }
        Due.is("count(0)", x.count(0), 5);
        Due.is("pass(100)", x.pass(100), twin.count(6) - 6);
        Due.is("digest()", x.digest(), twin.digest());
    }

    private static void foreseeFromNowOn() {
        Due.sentence("15: Returns this, if so many ticks went by from now on");
        RelayBooths x = new RelayBooths();
        x.addBooth(1, 1, 12);
        x.speak(80, 0, 3);
        x.rest(1);
        Due.is("with nobody there", x.foresee(0, 10, 1), 3);
        x.addInterpreter(18, 0);
        x.sit(0, 0);
        Due.is("with one who is not able", x.foresee(0, 10, 2), 0);
        x.setFloor(4);
        Due.is("with another language of the floor", x.foresee(0, 10, 2), 6);
        x.addInterpreter(18, 1);
        x.sit(0, 1);
        Due.is("with another interpreter", x.foresee(0, 10, 2), 3);
        x.addBooth(4, 2, 1);
        x.sit(1, 0);
        Due.is("at another booth", x.foresee(1, 10, 2), 4);
        Due.is("lost there", x.foresee(1, 10, 1), 1);
        Due.is("by the tick 4", x.foresee(1, 4, 2), 2);
        x.tune(1, 0);
        Due.is("with another source", x.foresee(1, 4, 2), 1);
        x.sit(1, -1);
        Due.is("with nobody there", x.foresee(1, 10, 1), 3);
        RelayBooths y = Due.chain(3, 0);
        y.speak(5, 0, 1);
        Due.is("at the end of a chain", y.foresee(2, 10, 2), 1);
        y.tune(1, -1);
        y.pass(2);
        Due.is("whatever was foreseen ahead of this", y.foresee(2, 10, 2), 1);
        Due.is("also a tick on", y.foresee(2, 1, 2), 1);
    }

    private static void adviseNoSuchBooth() {
        Due.sentence("16: Throws IndexOutOfBoundsException if there is no such booth");
        RelayBooths x = Due.booths(2, 0);
        for (int booth : Due.outside(0, 1)) {
            Due.refused(x, Due.INDEX, "advise(" + booth + ", 1)", () -> x.advise(booth, 1));
        }
        Due.is("advise(0, 1)", x.advise(0, 1), 0);
        Due.is("advise(1, 1)", x.advise(1, 1), 1);
    }

    private static void adviseTicks() {
        Due.sentence("16: Throws IllegalArgumentException if ticks is not 1 to 40");
        RelayBooths x = Due.booths(1, 0);
        for (int ticks : Due.outside(1, 40)) {
            Due.refused(x, Due.ARGUMENT, "advise(0, " + ticks + ")", () -> x.advise(0, ticks));
        }
        Due.is("advise(0, 1)", x.advise(0, 1), 0);
        Due.is("advise(0, 40)", x.advise(0, 40), 0);
    }

    private static void adviseBeyond400() {
        Due.sentence("16: Throws IllegalStateException if the tick would be greater than 400");
        RelayBooths x = atTick(361);
        Due.refused(x, Due.STATE, "advise(0, 40) at 361", () -> x.advise(0, 40));
        Due.is("advise(0, 39) at 361", x.advise(0, 39), 0);
        RelayBooths y = atTick(400);
        Due.refused(y, Due.STATE, "advise(0, 1) at 400", () -> y.advise(0, 1));
        RelayBooths z = atTick(360);
        Due.is("advise(0, 40) at 360", z.advise(0, 40), 0);
        RelayBooths empty = new RelayBooths();
        empty.addBooth(0, 1, 1);
        for (int i = 0; i < 4; i++) {
            empty.pass(100);
        }
        Due.refused(empty, Due.STATE, "advise(0, 1) at 400 with nobody", () -> empty.advise(0, 1));
    }

    private static void adviseNone() {
        Due.sentence("16: Returns this interpreter; -1 if there is none");
        RelayBooths x = new RelayBooths();
        x.addBooth(1, 1, 12);
        x.addBooth(1, 1, 12);
        Due.is("no interpreters", x.advise(0, 10), -1);
        x.addInterpreter(3, 0);
        x.sit(1, 0);
        x.speak(1, 0, 5);
        Due.is("all sit in other booths", x.advise(0, 10), -1);
        x.sit(1, -1);
        Due.is("nothing is changed", x.booth(0, 4), -1);
        Due.is("one sits in no booth", x.advise(0, 10), 0);
    }

    private static void adviseOfSeveralTheSmallest() {
        Due.sentence("16: the one with whom the most would have come through; of several the one with the smallest "
            + "number");
        RelayBooths x = new RelayBooths();
        x.addBooth(1, 1, 12);
        x.addInterpreter(0, 0);
        x.addInterpreter(3, 0);
        x.addInterpreter(3, 1048575);
        x.addInterpreter(7, 1048575);
        Due.is("with nothing to say, all are as good", x.advise(0, 40), 0);
        x.speak(30, 0, 1);
        Due.is("with a word, 1 is as good as 2 and 3", x.advise(0, 40), 1);
        x.speak(95, 0, 1);
        Due.is("with an idiom, 2 is as good as 3", x.advise(0, 40), 2);
        x.sit(0, 3);
        Due.is("also if 3 sits there", x.advise(0, 40), 2);
    }

    private static void adviseOfThoseInNoBoothAndTheOneThere() {
        Due.sentence("16: of those who sit in no booth and the one who sits there (all others stay where they are)");
        RelayBooths x = new RelayBooths();
        x.addBooth(1, 1, 12);
        x.addBooth(2, 1, 12);
        x.tune(1, 0);
        x.addInterpreter(7, 1048575);
        x.addInterpreter(6, 0);
        x.addInterpreter(6, 1);
        x.sit(0, 0);
        x.sit(1, 2);
        x.speak(80, 0, 1);
        Due.is("who sits in the source is not asked, who sits there is", x.advise(1, 10), 2);
        x.sit(1, 1);
        Due.is("who sits there is not the best", x.advise(1, 10), 2);
        Due.is("0 stays", x.interpreter(0, 2), 0);
        Due.is("1 stays", x.interpreter(1, 2), 1);
        Due.is("2 stays", x.interpreter(2, 2), -1);
        x.sit(1, 0);
        Due.is("nobody in the source: all are as good", x.advise(1, 10), 0);
    }

    private static void adviseInSoManyTicks() {
        Due.sentence("16: the most would have come through at it in so many ticks (nothing is changed)");
        RelayBooths x = new RelayBooths();
        x.addBooth(1, 3, 12);
        x.addInterpreter(0, 0);
        x.addInterpreter(3, 0);
        x.speak(5, 0, 1);
        long before = x.digest();
        Due.is("advise(0, 3): nothing is said by then", x.advise(0, 3), 0);
        Due.is("advise(0, 4)", x.advise(0, 4), 1);
        Due.is("digest()", x.digest(), before);
        RelayBooths tired = Due.oneBooth(1, 12, 0);
        tired.speak(50, 0, 21);
        tired.pass(22);
        tired.addInterpreter(3, 0);
        tired.speak(60, 0, 5);
        Due.is("a tired one would make a mistake", tired.advise(0, 10), 1);
        Due.is("not in the ticks ahead of it", tired.advise(0, 1), 0);
    }

    private static void throughNothing() {
        Due.sentence("17: 0 if there are no booths, or it said none");
        RelayBooths x = new RelayBooths();
        Due.isDouble("no booths, no words", x.through(), 0.0);
        x.addBooth(0, 1, 1);
        Due.isDouble("no words", x.through(), 0.0);
        x.rest(1);
        x.pass(1);
        Due.isDouble("a pause", x.through(), 0.0);
        RelayBooths y = new RelayBooths();
        y.speak(1, 0, 1);
        y.pass(1);
        Due.isDouble("no booths", y.through(), 0.0);
        y.addBooth(0, 1, 1);
        Due.isDouble("a booth that said nothing", y.through(), 0.0);
    }

    private static void throughDivided() {
        Due.sentence("17: the sum of what came through at all booths, divided by (booths * the words that the floor "
            + "said)");
        RelayBooths x = Due.chain(3, 0);
        x.speak(1, 0, 7);
        x.rest(2);
        x.pass(3);
        Due.isDouble("2 and 1 and 0 of 3 times 3", x.through(), 3.0 / 9.0);
        x.pass(10);
        Due.isDouble("all of them", x.through(), 1.0);
        x.sit(0, -1);
        x.speak(1, 0, 4);
        x.pass(10);
        Due.isDouble("7 and 7 and 7 of 3 times 11", x.through(), 21.0 / 33.0);
    }

    private static long digestOf(RelayBooths x) {
        List<Integer> numbers = new ArrayList<>();
        for (int what = 0; what < 10; what++) {
            numbers.add(x.count(what));
        }
        for (int i = 0; i < x.count(5); i++) {
            for (int what = 0; what < 7; what++) {
                numbers.add(x.interpreter(i, what));
            }
        }
        for (int b = 0; b < x.count(4); b++) {
            for (int what = 0; what < 12; what++) {
                numbers.add(x.booth(b, what));
            }
        }
        for (int source = -1; source < x.count(4); source++) {
            int[] words = Due.words(x, source);
            int[] ticks = Due.ticks(x, source);
            for (int i = 0; i < words.length; i++) {
                numbers.add(words[i]);
                numbers.add(ticks[i]);
            }
        }
        BigInteger d = BigInteger.valueOf(523);
        for (int number : numbers) {
            d = d.multiply(BigInteger.valueOf(31)).add(BigInteger.valueOf(number));
        }
        return d.longValue();
    }

    private static void digestOfANewObject() {
        Due.sentence("18: A number d starts with 523; for each of the following numbers x, d becomes d * 31 + x");
        RelayBooths x = new RelayBooths();
        Due.is("523 and ten zeros", x.digest(), 428665594090958923L);
        Due.is("digest()", x.digest(), digestOf(x));
        x.setFloor(3);
        Due.is("with the language 3", x.digest(), digestOf(x));
    }

    private static void digestWrapsAround() {
        Due.sentence("18: which wraps around as a 64-bit integer");
        RelayBooths x = Due.chain(3, 5);
        x.addInterpreter(255, 1048575);
        x.sit(2, -1);
        for (int i = 0; i < 12; i++) {
            Due.is("digest() at " + i, x.digest(), digestOf(x));
            x.speak(i * 8, 1, 8);
            x.rest(1);
            x.pass(9);
        }
        Due.is("digest() again", x.digest(), x.digest());
    }
}
