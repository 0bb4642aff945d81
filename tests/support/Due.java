import java.util.Arrays;
import java.util.concurrent.Callable;

/** What the tests of edges share: a sentence of the document is told first, then what is due by it. */
final class Due {
    static final Class<?> INDEX = IndexOutOfBoundsException.class;
    static final Class<?> ARGUMENT = IllegalArgumentException.class;
    static final Class<?> STATE = IllegalStateException.class;

    private static String sentence = "";
    private static int sentences = 0;
    private static int wrong = 0;

    private Due() {
    }

    static void sentence(String text) {
        sentence = text;
        sentences++;
    }

    private static void tell(String what, String got, String want) {
        wrong++;
        System.out.println("\"" + sentence + "\": " + what + " answered " + got + ", due is " + want);
    }

    static void is(String what, long got, long want) {
        if (got != want) {
            tell(what, Long.toString(got), Long.toString(want));
        }
    }

    static void isDouble(String what, double got, double want) {
        if (got != want) {
            tell(what, Double.toString(got), Double.toString(want));
        }
    }

    /** The call throws this exception, by its very class, and changes nothing that can be asked for. */
    static void refused(RelayBooths x, Class<?> want, String what, Callable<?> call) {
        long before = x.digest();
        String got = "no exception";
        try {
            call.call();
        } catch (Exception e) {
            got = e.getClass().getName();
        }
        if (!got.equals(want.getName())) {
            tell(what, got, want.getName());
        }
        is("digest() after " + what, x.digest(), before);
    }

    /** Numbers beyond a range: next to its ends, and as far off as can be. */
    static int[] outside(int least, int most) {
        return new int[] {least - 1, most + 1, Integer.MIN_VALUE, Integer.MAX_VALUE};
    }

    /** All that was said in a place; -1 for the floor. */
    static int[] words(RelayBooths x, int source) {
        int[] words = new int[source < 0 ? x.count(3) : x.booth(source, 6)];
        for (int i = 0; i < words.length; i++) {
            words[i] = x.said(source, i, false);
        }
        return words;
    }

    static int[] ticks(RelayBooths x, int source) {
        int[] ticks = new int[source < 0 ? x.count(3) : x.booth(source, 6)];
        for (int i = 0; i < ticks.length; i++) {
            ticks[i] = x.said(source, i, true);
        }
        return ticks;
    }

    static void saidAre(RelayBooths x, int source, int... want) {
        int[] got = words(x, source);
        if (!Arrays.equals(got, want)) {
            tell("the words of " + source, Arrays.toString(got), Arrays.toString(want));
        }
    }

    static void saidAt(RelayBooths x, int source, int... want) {
        int[] got = ticks(x, source);
        if (!Arrays.equals(got, want)) {
            tell("the ticks of " + source, Arrays.toString(got), Arrays.toString(want));
        }
    }

    /** One booth of language 1 on the floor of language 0, with an able interpreter, number 0, in it. */
    static RelayBooths oneBooth(int lag, int memory, int idioms) {
        RelayBooths x = new RelayBooths();
        x.addBooth(1, lag, memory);
        x.addInterpreter(3, idioms);
        x.sit(0, 0);
        return x;
    }

    /** Booths of lag 1 and memory 12, each on the floor and with its own able interpreter. */
    static RelayBooths booths(int count, int idioms) {
        RelayBooths x = new RelayBooths();
        for (int b = 0; b < count; b++) {
            x.addBooth(1, 1, 12);
            x.addInterpreter(3, idioms);
            x.sit(b, b);
        }
        return x;
    }

    /** The same, each booth but the first one with the one ahead of it as its source. */
    static RelayBooths chain(int count, int idioms) {
        RelayBooths x = booths(count, idioms);
        for (int b = 1; b < count; b++) {
            x.tune(b, b - 1);
        }
        return x;
    }

    static void pass(RelayBooths x, int ticks) {
        for (int i = 0; i < ticks; i++) {
            x.pass(1);
        }
    }

    /** Tells how it went; the exit code is 1 if an answer was wrong. */
    static void end(String test) {
        System.out.println(test + ": " + sentences + " sentences, " + wrong + " wrong answers");
        if (wrong != 0) {
            System.exit(1);
        }
    }
}
