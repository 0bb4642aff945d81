/** Each sentence of the document's "What it is" and "Terms" that names an edge has a test of its own here. */
public final class EdgesOfTermsTest {
    public static void main(String[] args) {
        goodFor512Calls();
        ticksFrom0();
        words80AndOnAreIdioms();
        languages0To7();
        floorLanguage0AtFirst();
        textOfAtMost120();
        atMost8Interpreters();
        setsAsSumsOfPowers();
        fatigue0AtFirst();
        atMost6Booths();
        lag1To9();
        memory1To12();
        floorIsTheSourceAtFirst();
        noBoothComesBackToItself();
        nobodySitsThereAtFirst();
        nobodySitsInTwo();
        able();
        floorSaysTheFirstIfThereIsOne();
        nothingIsSaidAtAPause();
        secondPartIsSaidNow();
        secondPartOfABoothThatIsNotAble();
        firstWordOfAMemoryThatIsNotEmpty();
        atLeastLagTicksAgo();
        dueWordIsLostIfNotAble();
        idiomInOtherWords();
        secondPartWhateverComesOutOfTheFirst();
        anyOtherWordAsItIs();
        mistakeFromFatigue20();
        mistakeAtMultiplesOf3();
        multiplesOf3OfThisInterpretersWords();
        mistakeLessThan80();
        seventyNineAs0();
        oneWordAndOneFatigueMore();
        silentFatigue1LessAtLeast0();
        hearsIfItsSourceSaidSomething();
        hearsAfterAllBoothsSpoke();
        fullMemoryLosesTheWord();
        leavesTheMemoryAheadOfHearing();
        sitsInNoBooth2LessAtLeast0();
        tickIs1Greater();
        lostIsCountedForTheBoothThatLost();
        keptByTheBooth();
        keptUpToTick400();
        greatestNumberInTheSameOrder();
        notNecessarilyBeside();
        cameThroughFromNoneToAll();
        Due.end("EdgesOfTermsTest");
    }

    private static void goodFor512Calls() {
        Due.sentence("An object is used for at most 512 calls after it has been made");
        RelayBooths x = Due.oneBooth(1, 12, 0);
        RelayBooths bulk = Due.oneBooth(1, 12, 0);
        for (int i = 0; i < 200; i++) {
            x.speak(i * 7 % 100, 0, 1);
            x.pass(1);
        }
        for (int i = 0; i < 5; i++) {
            bulk.speak(i * 40 * 7 % 100, 7, 40);
            bulk.pass(40);
        }
        for (int call = 404; call < 512; call++) {
            Due.is("call " + call + ", advise(0, 40)", x.advise(0, 40), 0);
        }
        Due.is("call 512, digest()", x.digest(), bulk.digest());
    }

    private static void ticksFrom0() {
        Due.sentence("Time is told in ticks, from 0.");
        RelayBooths x = Due.oneBooth(1, 12, 0);
        Due.is("count(0)", x.count(0), 0);
        x.speak(5, 0, 1);
        x.pass(2);
        Due.saidAt(x, -1, 0);
        Due.saidAt(x, 0, 1);
    }

    private static void words80AndOnAreIdioms() {
        Due.sentence("Words are 0 to 99; those from 80 on are idioms.");
        RelayBooths x = Due.oneBooth(1, 12, 0);
        x.speak(79, 1, 2);
        x.speak(99, 1, 2);
        x.pass(10);
        Due.saidAre(x, -1, 79, 80, 99, 0);
        Due.saidAre(x, 0, 79, 0, 1, 76, 77, 0);
        Due.is("interpreter(0, 6)", x.interpreter(0, 6), 2);
    }

    private static void languages0To7() {
        Due.sentence("Languages are 0 to 7.");
        for (int language = 0; language < 8; language++) {
            RelayBooths x = new RelayBooths();
            x.setFloor(language);
            x.addBooth(language, 1, 1);
            for (int i = 0; i < 8; i++) {
                x.addInterpreter(1 << i, 0);
                x.sit(0, i);
                Due.is("able in " + language + " with " + i, x.booth(0, 10), i == language ? 1 : 0);
            }
        }
    }

    private static void floorLanguage0AtFirst() {
        Due.sentence("The floor has a language (0, at first)");
        RelayBooths x = new RelayBooths();
        Due.is("count(1)", x.count(1), 0);
        x.addBooth(0, 1, 1);
        x.addInterpreter(1, 0);
        x.sit(0, 0);
        Due.is("booth(0, 10)", x.booth(0, 10), 1);
    }

    private static void textOfAtMost120() {
        Due.sentence("a text, a row of at most 120 words and pauses that are not said yet");
        RelayBooths x = new RelayBooths();
        x.speak(0, 1, 40);
        x.rest(40);
        Due.is("speak(40, 1, 40) at 80", x.speak(40, 1, 40), 120);
        Due.refused(x, Due.STATE, "rest(1) at 120", () -> x.rest(1));
        Due.refused(x, Due.STATE, "speak(0, 0, 1) at 120", () -> x.speak(0, 0, 1));
        x.pass(100);
        x.pass(20);
        Due.is("count(2)", x.count(2), 0);
        Due.is("count(3)", x.count(3), 80);
        for (int i = 0; i < 80; i++) {
            Due.is("word " + i, x.said(-1, i, false), i);
            Due.is("tick of word " + i, x.said(-1, i, true), i < 40 ? i : i + 40);
        }
        x.rest(40);
        x.rest(40);
        Due.is("said is not in the text, rest(40)", x.rest(40), 120);
    }

    private static void atMost8Interpreters() {
        Due.sentence("Interpreters. There are at most 8, numbered from 0 in the order of their coming");
        RelayBooths x = new RelayBooths();
        for (int i = 0; i < 8; i++) {
            Due.is("addInterpreter(" + (10 + i) + ", 0)", x.addInterpreter(10 + i, 0), i);
        }
        Due.refused(x, Due.STATE, "addInterpreter(0, 0) at 8", () -> x.addInterpreter(0, 0));
        for (int i = 0; i < 8; i++) {
            Due.is("interpreter(" + i + ", 0)", x.interpreter(i, 0), 10 + i);
        }
        Due.refused(x, Due.INDEX, "interpreter(8, 0)", () -> x.interpreter(8, 0));
    }

    private static void setsAsSumsOfPowers() {
        Due.sentence("told as the sums of the powers 2^k: of the languages k, and of the idioms 80 and k");
        for (int k = 0; k < 20; k++) {
            RelayBooths x = Due.oneBooth(1, 1, 1 << k);
            for (int idiom = 80; idiom < 100; idiom++) {
                x.speak(idiom, 0, 1);
                x.rest(1);
            }
            x.pass(42);
            Due.is("told in other words by who knows " + (80 + k), x.interpreter(0, 6), 19);
            int known = 0;
            for (int word : Due.words(x, 0)) {
                known += word == 80 + k ? 1 : 0;
            }
            Due.is("said as it is by who knows " + (80 + k), known, 1);
        }
        RelayBooths y = new RelayBooths();
        y.addBooth(7, 1, 1);
        y.addInterpreter(129, 0);
        y.addInterpreter(126, 0);
        y.sit(0, 0);
        Due.is("able with the languages 0 and 7", y.booth(0, 10), 1);
        y.sit(0, 1);
        Due.is("able with all others", y.booth(0, 10), 0);
    }

    private static void fatigue0AtFirst() {
        Due.sentence("and a fatigue (0, at first)");
        RelayBooths x = Due.oneBooth(1, 12, 0);
        x.speak(1, 0, 5);
        x.pass(6);
        x.addInterpreter(3, 0);
        Due.is("interpreter(0, 3)", x.interpreter(0, 3), 5);
        Due.is("interpreter(1, 3)", x.interpreter(1, 3), 0);
    }

    private static void atMost6Booths() {
        Due.sentence("Booths. There are at most 6, numbered likewise");
        RelayBooths x = new RelayBooths();
        for (int b = 0; b < 6; b++) {
            Due.is("addBooth(" + b + ", 1, 1)", x.addBooth(b, 1, 1), b);
        }
        Due.refused(x, Due.STATE, "addBooth(0, 1, 1) at 6", () -> x.addBooth(0, 1, 1));
        for (int b = 0; b < 6; b++) {
            Due.is("booth(" + b + ", 0)", x.booth(b, 0), b);
        }
        Due.refused(x, Due.INDEX, "booth(6, 0)", () -> x.booth(6, 0));
    }

    private static void lag1To9() {
        Due.sentence("each has a language, a lag, 1 to 9");
        for (int lag = 1; lag <= 9; lag++) {
            RelayBooths x = Due.oneBooth(lag, 12, 0);
            Due.is("booth(0, 1)", x.booth(0, 1), lag);
            x.speak(30, 1, 9);
            x.pass(20);
            Due.saidAre(x, 0, 30, 31, 32, 33, 34, 35, 36, 37, 38);
            Due.is("first tick with lag " + lag, x.said(0, 0, true), lag);
            Due.is("last tick with lag " + lag, x.said(0, 8, true), lag + 8);
        }
    }

    /** With lag 9, up to 9 words come ahead of the first that leaves; idioms leave only every other tick. */
    private static void memory1To12() {
        Due.sentence("a memory, 1 to 12 words");
        for (int memory = 1; memory <= 12; memory++) {
            int full = memory < 9 ? memory : 10 + 2 * (memory - 9);
            RelayBooths x = Due.oneBooth(9, memory, 0);
            Due.is("booth(0, 2)", x.booth(0, 2), memory);
            x.speak(80, 0, 20);
            x.pass(full);
            Due.is("held by a memory of " + memory, x.booth(0, 5), memory);
            Due.is("lost by a memory of " + memory, x.booth(0, 7), 0);
            x.pass(1);
            Due.is("held then by a memory of " + memory, x.booth(0, 5), memory);
            Due.is("lost then by a memory of " + memory, x.booth(0, 7), 1);
        }
        RelayBooths full = Due.oneBooth(9, 12, 0);
        full.speak(80, 0, 16);
        full.rest(19);
        full.speak(7, 0, 1);
        full.pass(16);
        Due.is("held at 16", full.booth(0, 5), 12);
        full.pass(30);
        Due.is("lost by a memory that was just full", full.booth(0, 7), 0);
        for (int i = 0; i < 32; i++) {
            Due.is("tick of word " + i, full.said(0, i, true), 9 + i);
        }
        Due.is("tick of the word after a pause", full.said(0, 32, true), 44);
    }

    private static void floorIsTheSourceAtFirst() {
        Due.sentence("a source, which is the floor (at first) or another booth");
        RelayBooths x = Due.chain(2, 0);
        Due.is("a third booth", x.addBooth(1, 1, 12), 2);
        Due.is("booth(2, 3)", x.booth(2, 3), -1);
        x.speak(5, 0, 1);
        x.pass(1);
        Due.is("the third one heard the floor", x.booth(2, 5), 1);
        Due.is("the second one did not", x.booth(1, 5), 0);
    }

    private static void noBoothComesBackToItself() {
        Due.sentence("no booth comes back to itself by sources");
        RelayBooths x = Due.chain(6, 0);
        for (int source = 0; source < 6; source++) {
            int to = source;
            Due.refused(x, Due.ARGUMENT, "tune(0, " + to + ")", () -> x.tune(0, to));
        }
        Due.is("tune(5, 0)", x.tune(5, 0), 4);
        Due.refused(x, Due.ARGUMENT, "tune(0, 5)", () -> x.tune(0, 5));
        Due.is("tune(5, -1)", x.tune(5, -1), 0);
        Due.is("tune(0, 5)", x.tune(0, 5), -1);
        Due.is("the longest chain", x.booth(4, 8), 6);
    }

    private static void nobodySitsThereAtFirst() {
        Due.sentence("In a booth one interpreter sits, or nobody (at first)");
        RelayBooths x = new RelayBooths();
        x.addInterpreter(3, 0);
        x.addBooth(1, 1, 12);
        Due.is("booth(0, 4)", x.booth(0, 4), -1);
        Due.is("interpreter(0, 2)", x.interpreter(0, 2), -1);
        x.addInterpreter(3, 0);
        x.sit(0, 0);
        x.sit(0, 1);
        Due.is("booth(0, 4)", x.booth(0, 4), 1);
        Due.is("interpreter(0, 2)", x.interpreter(0, 2), -1);
    }

    private static void nobodySitsInTwo() {
        Due.sentence("nobody sits in two");
        RelayBooths x = Due.booths(3, 0);
        x.sit(1, 0);
        Due.is("booth(0, 4)", x.booth(0, 4), -1);
        Due.is("booth(1, 4)", x.booth(1, 4), 0);
        Due.is("interpreter(0, 2)", x.interpreter(0, 2), 1);
        x.swap(1, 2);
        Due.is("booth(1, 4)", x.booth(1, 4), 2);
        Due.is("booth(2, 4)", x.booth(2, 4), 0);
        Due.is("interpreter(0, 2)", x.interpreter(0, 2), 2);
        x.sit(0, 0);
        Due.is("booth(2, 4)", x.booth(2, 4), -1);
    }

    private static void able() {
        Due.sentence("A booth is able, if an interpreter sits there who has its language and that of its source.");
        for (int languages = 0; languages < 8; languages++) {
            RelayBooths x = new RelayBooths();
            x.addBooth(1, 1, 12);
            x.addBooth(2, 1, 12);
            x.addInterpreter(languages, 0);
            x.sit(1, 0);
            Due.is("on the floor with " + languages, x.booth(1, 10), (languages & 5) == 5 ? 1 : 0);
            Due.is("nobody there", x.booth(0, 10), 0);
            x.tune(1, 0);
            Due.is("on a booth with " + languages, x.booth(1, 10), (languages & 6) == 6 ? 1 : 0);
            x.setFloor(1);
            x.tune(1, -1);
            Due.is("on the new floor with " + languages, x.booth(1, 10), (languages & 6) == 6 ? 1 : 0);
            x.setFloor(2);
            Due.is("on its own language with " + languages, x.booth(1, 10), (languages & 4) == 4 ? 1 : 0);
        }
    }

    private static void floorSaysTheFirstIfThereIsOne() {
        Due.sentence("The floor says the first word or pause of its text, if there is one");
        RelayBooths x = Due.oneBooth(1, 12, 0);
        Due.is("pass(2) with an empty text", x.pass(2), 0);
        Due.is("count(3)", x.count(3), 0);
        x.speak(0, 1, 2);
        x.pass(1);
        Due.is("count(2)", x.count(2), 1);
        Due.saidAre(x, -1, 0);
        x.pass(3);
        Due.saidAre(x, -1, 0, 1);
        Due.saidAt(x, -1, 2, 3);
        Due.saidAt(x, 0, 3, 4);
    }

    private static void nothingIsSaidAtAPause() {
        Due.sentence("(at a pause nothing is said)");
        RelayBooths x = Due.oneBooth(9, 12, 0);
        x.rest(2);
        x.speak(0, 0, 1);
        x.rest(1);
        x.pass(1);
        Due.is("count(2)", x.count(2), 3);
        Due.is("count(3)", x.count(3), 0);
        Due.is("booth(0, 5)", x.booth(0, 5), 0);
        x.pass(3);
        Due.is("count(2)", x.count(2), 0);
        Due.saidAre(x, -1, 0);
        Due.saidAt(x, -1, 2);
        Due.is("booth(0, 5)", x.booth(0, 5), 1);
    }

    private static void secondPartIsSaidNow() {
        Due.sentence("If the second part of an idiom waits to be said, it is said now");
        RelayBooths x = Due.oneBooth(2, 12, 0);
        x.speak(81, 0, 1);
        x.speak(6, 1, 2);
        x.pass(3);
        Due.is("a second part waits", x.booth(0, 9), 1);
        Due.is("a word is due", x.booth(0, 5), 2);
        Due.is("pass(1)", x.pass(1), 1);
        Due.is("it waits no more", x.booth(0, 9), 0);
        Due.is("no word left the memory", x.booth(0, 5), 2);
        x.pass(5);
        Due.saidAre(x, 0, 4, 5, 6, 7);
        Due.saidAt(x, 0, 2, 3, 4, 5);
        RelayBooths y = Due.booths(2, 0);
        y.speak(99, 0, 1);
        y.pass(2);
        y.swap(0, 1);
        y.tune(1, 0);
        y.setFloor(1);
        Due.is("it waits, whatever changes", y.booth(0, 9), 1);
        y.pass(1);
        Due.saidAre(y, 0, 76, 77);
        Due.saidAre(y, 1, 76, 77);
        Due.is("who sits there now said it", y.interpreter(1, 4), 2);
    }

    private static void secondPartOfABoothThatIsNotAble() {
        Due.sentence("(unless the booth is not able; then it is one word that is lost, and nothing else is done there "
            + "in this tick)");
        RelayBooths x = Due.oneBooth(1, 12, 0);
        x.speak(81, 0, 1);
        x.speak(6, 1, 2);
        x.pass(2);
        x.setFloor(5);
        Due.is("pass(1)", x.pass(1), 0);
        Due.is("it waits no more", x.booth(0, 9), 0);
        Due.is("one word is lost", x.booth(0, 7), 1);
        Due.is("the due word stays, another one came", x.booth(0, 5), 2);
        Due.is("nothing is said: the fatigue is 1 less", x.interpreter(0, 3), 0);
        x.setFloor(0);
        x.pass(5);
        Due.saidAre(x, 0, 4, 6, 7);
        Due.saidAt(x, 0, 1, 3, 4);
        RelayBooths left = Due.oneBooth(1, 12, 0);
        left.speak(81, 0, 1);
        left.pass(2);
        left.sit(0, -1);
        Due.is("pass(3) with nobody there", left.pass(3), 0);
        Due.is("it is lost once", left.booth(0, 7), 1);
    }

    private static void firstWordOfAMemoryThatIsNotEmpty() {
        Due.sentence("Otherwise, if its memory is not empty, and the first word in it came");
        RelayBooths x = Due.oneBooth(1, 12, 0);
        Due.is("pass(3) with an empty memory", x.pass(3), 0);
        Due.is("nothing is lost", x.booth(0, 7), 0);
        x.sit(0, -1);
        Due.is("pass(3) with nobody and an empty memory", x.pass(3), 0);
        Due.is("nothing is lost", x.booth(0, 7), 0);
        x.sit(0, 0);
        x.speak(0, 1, 3);
        x.pass(10);
        Due.saidAre(x, 0, 0, 1, 2);
        Due.saidAt(x, 0, 7, 8, 9);
    }

    private static void atLeastLagTicksAgo() {
        Due.sentence("at least lag ticks ago, this word leaves the memory");
        for (int lag = 1; lag <= 9; lag++) {
            RelayBooths x = Due.oneBooth(lag, 12, 0);
            x.speak(5, 0, 1);
            Due.is("pass(lag)", x.pass(lag), 0);
            Due.is("it is in the memory", x.booth(0, 5), 1);
            Due.is("pass(1)", x.pass(1), 1);
            Due.is("it left the memory", x.booth(0, 5), 0);
        }
        RelayBooths late = Due.oneBooth(1, 12, 0);
        late.speak(80, 0, 2);
        late.speak(7, 1, 2);
        late.pass(10);
        Due.saidAre(late, 0, 0, 1, 0, 1, 7, 8);
        Due.saidAt(late, 0, 1, 2, 3, 4, 5, 6);
    }

    private static void dueWordIsLostIfNotAble() {
        Due.sentence("if the booth is not able, it is lost");
        RelayBooths x = Due.oneBooth(3, 12, 0);
        x.setFloor(5);
        x.speak(1, 1, 3);
        x.pass(3);
        Due.is("not due yet", x.booth(0, 7), 0);
        Due.is("held", x.booth(0, 5), 3);
        Due.is("pass(1)", x.pass(1), 0);
        Due.is("one is lost", x.booth(0, 7), 1);
        Due.is("held", x.booth(0, 5), 2);
        x.setFloor(0);
        Due.is("pass(1)", x.pass(1), 1);
        Due.saidAre(x, 0, 2);
        x.sit(0, -1);
        x.pass(5);
        Due.is("two are lost", x.booth(0, 7), 2);
        Due.is("held", x.booth(0, 5), 0);
        RelayBooths idiom = Due.oneBooth(1, 12, 0);
        idiom.setFloor(5);
        idiom.speak(90, 0, 1);
        idiom.pass(5);
        Due.is("an idiom is one word that is lost", idiom.booth(0, 7), 1);
        Due.is("no second part waits", idiom.booth(0, 9), 0);
        Due.is("it is not told in other words", idiom.interpreter(0, 6), 0);
    }

    private static void idiomInOtherWords() {
        Due.sentence("in other words: (the word less 80) * 4 is said now, and this number and 1 waits as the second part");
        RelayBooths x = Due.oneBooth(1, 12, 0);
        int[] due = new int[16];
        int at = 0;
        for (int idiom : new int[] {80, 81, 82, 83, 96, 97, 98, 99}) {
            x.speak(idiom, 0, 1);
            x.rest(1);
            due[at] = (idiom - 80) * 4;
            due[at + 1] = (idiom - 80) * 4 + 1;
            at += 2;
        }
        Due.is("pass(2)", x.pass(2), 1);
        Due.is("a second part waits", x.booth(0, 9), 1);
        x.pass(15);
        Due.is("no second part waits", x.booth(0, 9), 0);
        Due.saidAre(x, 0, due);
        Due.is("told in other words", x.interpreter(0, 6), 8);
        Due.is("words said", x.interpreter(0, 4), 16);
        RelayBooths y = Due.oneBooth(1, 12, 1);
        y.addInterpreter(3, 0);
        y.speak(80, 0, 1);
        y.pass(1);
        y.sit(0, 1);
        y.pass(2);
        Due.saidAre(y, 0, 0, 1);
        Due.is("it is who says it that must know it", y.interpreter(1, 6), 1);
    }

    private static void secondPartWhateverComesOutOfTheFirst() {
        Due.sentence("(whatever comes out of the first part)");
        RelayBooths x = Due.oneBooth(1, 12, 0);
        x.speak(0, 0, 24);
        x.speak(85, 0, 1);
        x.pass(30);
        Due.is("the mistaken first part", x.said(0, 24, false), 21);
        Due.is("the second part", x.said(0, 25, false), 21);
    }

    private static void anyOtherWordAsItIs() {
        Due.sentence("Any other word is said as it is.");
        RelayBooths x = Due.oneBooth(1, 12, 1048575);
        x.speak(0, 33, 4);
        x.speak(79, 1, 2);
        x.pass(10);
        Due.saidAre(x, 0, 0, 33, 66, 99, 79, 80);
        Due.is("told in other words", x.interpreter(0, 6), 0);
        Due.is("no second part waits", x.booth(0, 9), 0);
    }

    private static int wordAfterRest(int pauses) {
        RelayBooths x = Due.oneBooth(1, 12, 0);
        x.speak(0, 1, 21);
        x.rest(pauses);
        x.speak(30, 0, 1);
        x.pass(30);
        return x.said(0, 21, false);
    }

    private static void mistakeFromFatigue20() {
        Due.sentence("if the fatigue of the interpreter is at least 20");
        Due.is("with fatigue 20", wordAfterRest(1), 31);
        Due.is("with fatigue 19", wordAfterRest(2), 30);
        RelayBooths x = Due.oneBooth(1, 12, 0);
        x.speak(50, 0, 21);
        x.pass(22);
        Due.is("mistakes of the first 21 words", x.interpreter(0, 5), 0);
    }

    private static void mistakeAtMultiplesOf3() {
        Due.sentence("the number of words that this one has said so far (this one not counted) is a multiple of 3");
        RelayBooths x = Due.oneBooth(1, 12, 0);
        x.speak(50, 0, 40);
        x.pass(41);
        for (int i = 0; i < 40; i++) {
            Due.is("word " + i, x.said(0, i, false), i > 20 && i % 3 == 0 ? 51 : 50);
        }
        Due.is("interpreter(0, 5)", x.interpreter(0, 5), 7);
    }

    private static void multiplesOf3OfThisInterpretersWords() {
        Due.sentence("the number of words that this one has said so far");
        RelayBooths x = Due.oneBooth(1, 12, 0);
        x.addInterpreter(3, 0);
        x.speak(50, 0, 2);
        x.pass(3);
        x.sit(0, 1);
        x.speak(50, 0, 30);
        x.pass(31);
        for (int i = 0; i < 32; i++) {
            boolean isMistake = i == 23 || i == 26 || i == 29;
            Due.is("word " + i + " of the booth", x.said(0, i, false), isMistake ? 51 : 50);
        }
        Due.is("mistakes of who left", x.interpreter(0, 5), 0);
        Due.is("mistakes of who came", x.interpreter(1, 5), 3);
    }

    private static void mistakeLessThan80() {
        Due.sentence("a word less than 80 is said as the next number instead; this is a mistake");
        RelayBooths x = Due.oneBooth(1, 12, 1);
        x.speak(0, 0, 21);
        x.speak(80, 0, 4);
        x.pass(26);
        Due.is("80 is said as it is", x.said(0, 21, false), 80);
        Due.is("80 is said as it is", x.said(0, 24, false), 80);
        Due.is("that is no mistake", x.interpreter(0, 5), 0);
        x.speak(78, 0, 3);
        x.pass(4);
        Due.is("78 is said as 79", x.said(0, 27, false), 79);
        Due.is("that is one", x.interpreter(0, 5), 1);
    }

    private static void seventyNineAs0() {
        Due.sentence("(79 as 0)");
        RelayBooths x = Due.oneBooth(1, 12, 1048575);
        x.speak(0, 0, 21);
        x.speak(79, 0, 2);
        x.pass(25);
        Due.is("the mistaken 79", x.said(0, 21, false), 0);
        Due.is("the next 79", x.said(0, 22, false), 79);
        Due.is("mistakes", x.interpreter(0, 5), 1);
    }

    private static void oneWordAndOneFatigueMore() {
        Due.sentence("Then this one has said one word more, and the fatigue is 1 more.");
        RelayBooths x = Due.oneBooth(1, 12, 1);
        x.speak(0, 0, 27);
        x.speak(80, 0, 1);
        x.speak(90, 0, 1);
        x.pass(1);
        for (int i = 1; i <= 30; i++) {
            x.pass(1);
            Due.is("words said", x.interpreter(0, 4), i);
            Due.is("fatigue", x.interpreter(0, 3), i);
        }
    }

    private static void silentFatigue1LessAtLeast0() {
        Due.sentence("If nothing is said there, the fatigue of the interpreter, if one sits there, is 1 less "
            + "(at least 0).");
        RelayBooths x = Due.oneBooth(9, 12, 0);
        Due.is("pass(1)", x.pass(1), 0);
        Due.is("0 stays 0", x.interpreter(0, 3), 0);
        x.speak(1, 0, 4);
        x.pass(13);
        Due.is("fatigue", x.interpreter(0, 3), 4);
        x.speak(1, 0, 1);
        x.pass(1);
        Due.is("1 less, a word waits for its lag", x.interpreter(0, 3), 3);
        x.setFloor(5);
        x.pass(1);
        Due.is("1 less, the booth is not able", x.interpreter(0, 3), 2);
        x.pass(8);
        Due.is("at least 0, a word was lost", x.interpreter(0, 3), 0);
        Due.is("the word was lost", x.booth(0, 7), 1);
        RelayBooths y = Due.oneBooth(1, 12, 0);
        y.speak(1, 0, 3);
        y.speak(1, 0, 1);
        y.pass(4);
        y.setFloor(5);
        y.pass(1);
        Due.is("1 less in the tick in which a word is lost", y.interpreter(0, 3), 2);
        y.sit(0, -1);
        Due.is("pass(3) with nobody there", y.pass(3), 0);
        Due.is("words said", y.booth(0, 6), 3);
    }

    private static void hearsIfItsSourceSaidSomething() {
        Due.sentence("Each booth hears what its source said in this tick, if it said something");
        RelayBooths x = Due.chain(2, 0);
        x.addBooth(1, 9, 12);
        x.speak(0, 0, 1);
        x.pass(1);
        Due.is("on the floor: heard in the same tick", x.booth(0, 5), 1);
        Due.is("on a booth: nothing yet", x.booth(1, 5), 0);
        x.pass(1);
        Due.is("on a booth: heard in the same tick", x.booth(1, 5), 1);
        Due.is("on the floor: not once more", x.booth(2, 5), 1);
        x.pass(5);
        Due.is("on the floor: never once more", x.booth(2, 5), 1);
        Due.saidAre(x, 1, 0);
        Due.saidAt(x, 1, 2);
        x.addBooth(1, 9, 12);
        x.tune(2, 1);
        x.pass(1);
        Due.is("a later booth hears nothing old", x.booth(3, 5), 0);
        Due.is("a later source tells nothing old", x.booth(2, 5), 1);
        RelayBooths y = Due.chain(2, 0);
        y.speak(50, 0, 22);
        y.pass(24);
        Due.is("the mistake of the first booth", y.said(0, 21, false), 51);
        Due.is("is what the next one heard", y.said(1, 21, false), 52);
        y.sit(0, -1);
        y.speak(3, 0, 1);
        y.pass(3);
        Due.is("what the source lost is not heard", y.booth(1, 6), 22);
    }

    private static void hearsAfterAllBoothsSpoke() {
        Due.sentence("2. Each booth, in ascending order; 3. Each booth hears what its source said in this tick");
        RelayBooths x = Due.booths(3, 0);
        x.tune(0, 1);
        x.tune(1, 2);
        x.speak(80, 0, 1);
        x.speak(7, 0, 1);
        x.pass(10);
        for (int b = 0; b < 3; b++) {
            Due.saidAre(x, b, 0, 1, 7);
            Due.saidAt(x, b, 3 - b, 4 - b, 5 - b);
        }
    }

    private static void fullMemoryLosesTheWord() {
        Due.sentence("it comes to the end of the memory; if that is full, it is lost");
        RelayBooths x = Due.oneBooth(5, 2, 0);
        x.speak(10, 1, 8);
        x.pass(2);
        Due.is("nothing is lost", x.booth(0, 7), 0);
        x.pass(3);
        Due.is("held", x.booth(0, 5), 2);
        Due.is("three are lost", x.booth(0, 7), 3);
        x.pass(20);
        Due.saidAre(x, 0, 10, 11, 15, 16);
        Due.saidAt(x, 0, 5, 6, 10, 11);
        Due.is("four are lost", x.booth(0, 7), 4);
    }

    private static void leavesTheMemoryAheadOfHearing() {
        Due.sentence("A tick goes like this: 2. this word leaves the memory; 3. Each booth hears");
        RelayBooths x = Due.oneBooth(1, 1, 0);
        x.speak(10, 1, 5);
        x.pass(6);
        Due.saidAre(x, 0, 10, 11, 12, 13, 14);
        Due.is("nothing is lost", x.booth(0, 7), 0);
        RelayBooths empty = new RelayBooths();
        empty.addBooth(1, 1, 1);
        empty.speak(10, 1, 5);
        empty.pass(5);
        Due.is("who is not able loses the due one, not the new one", empty.booth(0, 7), 4);
        Due.is("held", empty.booth(0, 5), 1);
    }

    private static void sitsInNoBooth2LessAtLeast0() {
        Due.sentence("Who sits in no booth: the fatigue is 2 less (at least 0).");
        RelayBooths x = Due.booths(2, 0);
        x.speak(1, 0, 5);
        x.pass(6);
        x.sit(0, -1);
        for (int due : new int[] {3, 1, 0, 0}) {
            x.pass(1);
            Due.is("in no booth", x.interpreter(0, 3), due);
        }
        Due.is("in a booth", x.interpreter(1, 3), 1);
        x.sit(1, -1);
        x.pass(1);
        Due.is("from 1 to 0", x.interpreter(1, 3), 0);
    }

    private static void tickIs1Greater() {
        Due.sentence("The tick is 1 greater.");
        RelayBooths x = new RelayBooths();
        for (int tick = 1; tick <= 5; tick++) {
            x.pass(1);
            Due.is("count(0)", x.count(0), tick);
        }
        x.pass(7);
        Due.is("count(0)", x.count(0), 12);
    }

    private static void lostIsCountedForTheBoothThatLost() {
        Due.sentence("Words that are lost are counted for the booth that lost them.");
        RelayBooths x = Due.booths(2, 0);
        x.addBooth(1, 9, 1);
        x.sit(1, -1);
        x.speak(1, 0, 4);
        x.pass(5);
        Due.is("able", x.booth(0, 7), 0);
        Due.is("not able", x.booth(1, 7), 4);
        Due.is("full", x.booth(2, 7), 3);
        Due.is("count(7)", x.count(7), 7);
    }

    private static void keptByTheBooth() {
        Due.sentence("What was said is kept with its tick, for the floor and for each booth (by the booth, whoever sat "
            + "there).");
        RelayBooths x = Due.booths(2, 0);
        x.speak(1, 1, 2);
        x.pass(2);
        x.swap(0, 1);
        x.pass(1);
        x.sit(0, -1);
        Due.saidAre(x, 0, 1, 2);
        Due.saidAt(x, 0, 1, 2);
        Due.saidAre(x, 1, 1, 2);
        Due.saidAre(x, -1, 1, 2);
        Due.saidAt(x, -1, 0, 1);
        Due.is("words that 0 said", x.interpreter(0, 4), 2);
    }

    private static void keptUpToTick400() {
        Due.sentence("What was said is kept with its tick (in all 400 of them)");
        RelayBooths x = Due.chain(2, 1048575);
        for (int i = 0; i < 10; i++) {
            x.speak(i * 40 % 100, 1, 40);
            x.pass(40);
        }
        Due.is("the last word of the floor", x.said(-1, 399, false), 99);
        Due.is("its tick", x.said(-1, 399, true), 399);
        Due.is("the last tick of a booth", x.said(0, 398, true), 399);
        Due.is("its word is an idiom", x.said(0, 398, false), 98);
        Due.is("the last tick of the next one", x.said(1, 397, true), 399);
        Due.refused(x, Due.INDEX, "said(-1, 400, true)", () -> x.said(-1, 400, true));
        Due.refused(x, Due.INDEX, "said(0, 399, true)", () -> x.said(0, 399, true));
    }

    /** Has the floor say a word that the booth loses. */
    private static void speakToNobody(RelayBooths x, int word) {
        x.setFloor(5);
        x.speak(word, 0, 1);
        x.pass(2);
        x.setFloor(0);
    }

    private static void greatestNumberInTheSameOrder() {
        Due.sentence("the greatest number of words that can be found in both the words of the floor and those of the "
            + "booth, in the same order");
        RelayBooths none = Due.oneBooth(1, 12, 0);
        Due.is("nothing was said", none.booth(0, 11), 0);
        speakToNobody(none, 4);
        Due.is("the booth said nothing", none.booth(0, 11), 0);
        none.speak(9, 0, 1);
        none.pass(2);
        Due.is("the booth said the second word", none.booth(0, 11), 1);
        RelayBooths turned = Due.oneBooth(1, 12, 0);
        speakToNobody(turned, 1);
        speakToNobody(turned, 0);
        turned.speak(80, 0, 1);
        turned.pass(3);
        Due.saidAre(turned, 0, 0, 1);
        Due.is("of 1, 0, 80 and 0, 1", turned.booth(0, 11), 1);
        RelayBooths once = Due.oneBooth(1, 12, 0);
        once.speak(81, 0, 1);
        once.speak(5, 0, 1);
        once.pass(4);
        Due.saidAre(once, 0, 4, 5, 5);
        Due.is("of 81, 5 and 4, 5, 5", once.booth(0, 11), 1);
        RelayBooths later = Due.oneBooth(1, 12, 0);
        later.speak(81, 0, 1);
        later.speak(9, 0, 1);
        later.speak(4, 0, 1);
        later.pass(5);
        Due.saidAre(later, 0, 4, 5, 9, 4);
        Due.is("of 81, 9, 4 and 4, 5, 9, 4", later.booth(0, 11), 2);
    }

    private static void notNecessarilyBeside() {
        Due.sentence("(not necessarily one beside the other)");
        RelayBooths x = Due.oneBooth(1, 12, 0);
        x.speak(5, 0, 1);
        x.pass(2);
        speakToNobody(x, 6);
        x.speak(7, 0, 1);
        x.pass(2);
        Due.saidAre(x, 0, 5, 7);
        Due.is("of 5, 6, 7 and 5, 7", x.booth(0, 11), 2);
        RelayBooths far = Due.oneBooth(1, 12, 1048575);
        far.speak(1, 0, 1);
        far.pass(2);
        far.sit(0, -1);
        for (int i = 0; i < 4; i++) {
            far.speak(2, 1, 40);
            far.pass(41);
        }
        far.sit(0, 0);
        far.speak(1, 0, 1);
        far.pass(2);
        Due.saidAre(far, 0, 1, 1);
        Due.is("with 160 words between", far.booth(0, 11), 2);
    }

    private static int common(int[] one, int[] other) {
        int[][] table = new int[one.length + 1][other.length + 1];
        for (int i = 1; i <= one.length; i++) {
            for (int k = 1; k <= other.length; k++) {
                table[i][k] = one[i - 1] == other[k - 1] ? table[i - 1][k - 1] + 1
                    : Math.max(table[i - 1][k], table[i][k - 1]);
            }
        }
        return table[one.length][other.length];
    }

    private static void cameThroughFromNoneToAll() {
        Due.sentence("What came through at a booth is the greatest number of words (0 to 99, none to all 400)");
        RelayBooths each = Due.oneBooth(1, 12, 1048575);
        for (int word = 0; word < 100; word++) {
            each.speak(word, 0, 1);
            each.rest(1);
            each.pass(2);
            Due.is("with the word " + word, each.booth(0, 11), word + 1);
        }
        RelayBooths crossed = Due.oneBooth(1, 12, 1 << 19);
        crossed.speak(81, 18, 2);
        crossed.pass(4);
        crossed.sit(0, -1);
        crossed.speak(4, 1, 2);
        crossed.speak(30, 1, 40);
        crossed.speak(30, 1, 40);
        crossed.pass(90);
        Due.saidAre(crossed, 0, 4, 5, 99);
        Due.is("of 81, 99, 4, 5, .. and 4, 5, 99", crossed.booth(0, 11), 2);
        RelayBooths[] grown = {Due.chain(2, 1048575), Due.chain(2, 0), Due.chain(2, 1048575)};
        for (int tick = 0; tick < 400; tick++) {
            grown[0].speak(tick * 37 % 100, 0, 1);
            grown[1].speak(tick * 7 % 90, 0, 1);
            grown[2].speak(tick * tick % 5, 0, 1);
            for (RelayBooths x : grown) {
                x.pass(1);
            }
        }
        for (RelayBooths x : grown) {
            for (int b = 0; b < 2; b++) {
                Due.is("of 400 words at " + b, x.booth(b, 11), common(Due.words(x, -1), Due.words(x, b)));
            }
        }
    }
}
